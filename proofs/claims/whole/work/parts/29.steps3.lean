section STEPS3
variable {D : va_G} {d : Nat}
theorem w_person {T P Y k z : Nat} {kd sz : Nat → Nat} {ow : Nat → Option Nat} {dd rh : Nat → Nat → Option Nat} {fm ou : Nat → Nat} (hk : k ≤ 3) (hz : z ≤ 9) (w : WCo T P Y kd sz ow dd rh fm ou) : WCo T (P + 1) Y (up1 kd P k) (up1 sz P z) ow dd rh fm ou := by
  obtain ⟨w1, w2, w3, w4, w5, w6, w7, w8, w9, w10, w11, w12⟩ := w
  refine ⟨fun p hp => ?_, fun p hp => ?_, fun p t h => ⟨(w3 p t h).1, by have := (w3 p t h).2; omega⟩, w4, w5, w6, w7, fun p => ?_, w9, w10, w11, fun p hp => w12 p (by omega)⟩
  · rw [up1]
    split
    · exact hk
    · exact w1 p (by omega)
  · rw [up1]
    split
    · exact hz
    · exact w2 p (by omega)
  · have := w8 p
    rw [Nat.pow_succ]
    omega
theorem st_person {a b : Int32} : Step D (d + 3) nDesk_person nModel_person [.int a, .int b] := by
  intro F G ⟨T, dr, pl, mu, lf, P, Y, kd, sz, ow, dd, rh, fm, ou, hc, ca, ho, sl, sv, hS, hC, hN, hT⟩
  have same : RI F := ⟨T, dr, pl, mu, lf, P, Y, kd, sz, ow, dd, rh, fm, ou, hc, ca, ho, sl, sv, hS, hC, hN, hT⟩
  refine eDesk_person (c_isKind (fun q1 q2 => ⟨fun e => absurd e ne10, fun _ => c_isWithin (fun r1 r2 => ⟨fun e => absurd e ne10, fun _ => ?_⟩) (fun r => ⟨fun _ => ?_, fun e => absurd rfl e⟩)⟩) (fun q => ⟨fun _ => ?_, fun e => absurd rfl e⟩))
  · obtain ⟨k, -, k2, rfl⟩ := rng 0 3 (by omega) (by omega) q1 q2
    obtain ⟨z, z1, z2, rfl⟩ := rng 1 9 (by omega) (by omega) r1 r2
    refine c_addPerson1 hC.1 (fun hP F1 s1 f1 => ?_) (fun hP => ?_)
    · have ms := MCo_fr f1 (by decide) hC.2.1
      refine eModel_person (m_isIn (fun _ _ => ⟨fun e => absurd e ne10, fun _ => m_isIn (fun _ _ => ⟨fun _ => ?_, fun e => absurd e ne10⟩) (fun z => absurd ⟨r1, r2⟩ z)⟩) (fun z => absurd ⟨q1, q2⟩ z))
      obtain ⟨m1, m2, m3, m4, m5, m6, m7, m8, m9, m10, m11⟩ := ms
      have hi := ix1 (n := 10) hP (by omega)
      simp only [m2, hi.2, upS_same, up_ne _ _ _ (show (111 : Nat) ≠ 44 by decide), up_ne _ _ _ (show (111 : Nat) ≠ 45 by decide), up_ne _ _ _ (show (111 : Nat) ≠ 46 by decide), up_ne _ _ _ (show (111 : Nat) ≠ 50 by decide)]
      rw [l10, nI_eq (by omega) (by omega)]
      refine ⟨fun _ => ⟨hi.1, hi.1, hi.1, hi.1, ?_⟩, fun e => absurd e (by omega)⟩
      rw [nI_1, nI_pred]
      have f2 : Fr [44, 45, 46, 50, 111] F1 (upS (up (up (up (up F1 44 P (nI k)) 45 P (nI z)) 46 P (-1)) 50 P 30) 111 (nI (P + 1))) := ((((Fr.rf.up (by decide)).up (by decide)).up (by decide)).up (by decide)).up (by decide)
      have f := f1.tr f2
      have how : ow P = none := by
        cases h : ow P with
        | none => rfl
        | some t => have := (hC.2.2.2.2.1 P t h).2; omega
      have hou : ou P = 30 := hC.2.2.2.2.2.2.2.2.2.2.2.2.2 P (Nat.le_refl P)
      refine ⟨rfl, T, dr, pl, mu, lf, P + 1, Y, up1 kd P k, up1 sz P z, ow, dd, rh, fm, ou, hc, ca, ho, sl, sv, RS_fr f (by decide) hS, ⟨CCo_fr f2 (by decide) s1, ⟨by omega, by rw [upS_same], m3, m4, fun p hp => ?_, fun p hp => ?_, fun p hp => ?_, m8, m9, m10, fun p hp => ?_⟩, w_person k2 z2 hC.2.2⟩, ?_, RT_fr f (by decide) hT⟩
      · rw [upS_ne _ _ (by decide), up_ne _ _ _ (by decide), up_ne _ _ _ (by decide), up_ne _ _ _ (by decide), up_same, upd_i, up1]
        by_cases e : p = P
        · rw [if_pos e, if_pos e]
        · rw [if_neg e, if_neg e]; exact m5 p (by omega)
      · rw [upS_ne _ _ (by decide), up_ne _ _ _ (by decide), up_ne _ _ _ (by decide), up_same, upd_i, up1]
        by_cases e : p = P
        · rw [if_pos e, if_pos e]
        · rw [if_neg e, if_neg e, up_ne _ _ _ (by decide)]; exact m6 p (by omega)
      · rw [upS_ne _ _ (by decide), up_ne _ _ _ (by decide), up_same, upd_i]
        by_cases e : p = P
        · rw [if_pos e, e, how]; rfl
        · rw [if_neg e, up_ne _ _ _ (by decide), up_ne _ _ _ (by decide)]; exact m7 p (by omega)
      · rw [upS_ne _ _ (by decide), up_same, upd_i]
        by_cases e : p = P
        · rw [if_pos e, e, hou]; rfl
        · rw [if_neg e, up_ne _ _ _ (by decide), up_ne _ _ _ (by decide), up_ne _ _ _ (by decide)]; exact m11 p (by omega)
      · obtain ⟨n1, n2, n3⟩ := RN_fr f (by decide) hN
        exact ⟨n1, n2, n3.1, fun t p h => by have := n3.2.1 t p h; omega, fun h t c p hp => by have := n3.2.2 h t c p hp; omega⟩
    · have m2 := hC.2.1.2.1
      refine eModel_person (m_isIn (fun _ _ => ⟨fun e => absurd e ne10, fun _ => m_isIn (fun _ _ => ⟨fun _ => ?_, fun e => absurd e ne10⟩) (fun z => absurd ⟨r1, r2⟩ z)⟩) (fun z => absurd ⟨q1, q2⟩ z))
      refine ⟨fun e => absurd (by rw [m2, l10, hP]) e, fun _ => ⟨rfl, same⟩⟩
  · exact eModel_person (m_isIn (fun _ _ => ⟨fun e => absurd e ne10, fun _ => m_isIn (fun z1 z2 => absurd ⟨z1, z2⟩ r) (fun _ => ⟨fun e => absurd rfl e, fun _ => ⟨rfl, same⟩⟩)⟩) (fun z => absurd ⟨q1, q2⟩ z))
  · exact eModel_person (m_isIn (fun z1 z2 => absurd ⟨z1, z2⟩ q) (fun _ => ⟨fun _ => ⟨rfl, same⟩, fun e => absurd rfl e⟩))
theorem st_isOf {a b : Int32} : Step D (d + 3) nDesk_isOf nModel_isOf [.int a, .int b] := by
  intro F G ⟨T, dr, pl, mu, lf, P, Y, kd, sz, ow, dd, rh, fm, ou, hc, ca, ho, sl, sv, hS, hC, hN, hT⟩
  have same : RI F := ⟨T, dr, pl, mu, lf, P, Y, kd, sz, ow, dd, rh, fm, ou, hc, ca, ho, sl, sv, hS, hC, hN, hT⟩
  have hP := hC.1.1
  refine eDesk_isOf (c_isPerson hC.1 (fun p hp ea => ⟨fun e => absurd e ne10, fun _ => c_isKind (fun q1 q2 => ⟨fun _ => ?_, fun e => absurd e ne10⟩) (fun q => ⟨fun e => absurd rfl e, fun _ => ?_⟩)⟩) (fun z => ⟨fun _ => eModel_isOf (m_isPerson0 hC.2.1 z ⟨fun _ => ⟨rfl, same⟩, fun e => absurd rfl e⟩), fun e => absurd rfl e⟩))
  · subst ea
    obtain ⟨k, -, k2, rfl⟩ := rng 0 3 (by omega) (by omega) q1 q2
    have hi := ix1 (n := 10) (c := p) (by omega) (by omega)
    have hk3 := hC.2.2.1 p hp
    have key : ∀ v : Bool, ofK kd p k = v → AMi D (d + 3) nModel_isOf [.ref 39, .int (nI p), .int (nI k)] F G (fun r' F2 _ => bI v = r' ∧ RI F2) := by
      intro v hv
      refine eModel_isOf (m_isPerson1 hC.2.1 hp ⟨fun e => absurd e ne10, fun _ => m_isIn (fun _ _ => ⟨fun _ => ?_, fun e => absurd e ne10⟩) (fun z => absurd ⟨q1, q2⟩ z)⟩)
      rw [hi.2, hC.2.1.2.2.2.2.1 p hp, nI_eq (by omega) (by omega), l2, nI_eq (by omega) (by omega), ← nI_0, nI_eq (by omega) (by omega)]
      unfold ofK at hv
      refine ⟨fun e => ?_, fun e => ⟨hi.1, fun e2 => ?_, fun e2 => ⟨fun e3 => ?_, fun e3 => m_isSwing1 hC.2.1 hC.2.2 hp ?_⟩⟩⟩
      · simp only [e, decide_true, Bool.true_or] at hv; rw [← hv]; exact ⟨rfl, same⟩
      · simp only [e2, decide_true, Bool.true_or, Bool.or_true] at hv; rw [← hv]; exact ⟨rfl, same⟩
      · simp only [e, e2, e3, decide_false, Bool.false_or, Bool.false_and] at hv; rw [← hv, nI_0]; exact ⟨rfl, same⟩
      · subst e3
        have hv2 : ofK kd p 2 = v := hv
        rw [hv2, nI_0]
        cases v with
        | true => exact ⟨fun z => absurd z ne10, fun _ => ⟨rfl, same⟩⟩
        | false => exact ⟨fun _ => ⟨rfl, same⟩, fun z => absurd rfl z⟩
    refine c_isOfKind1 hC.1 hC.2.2 hp k2 ⟨fun e => ?_, fun e => ?_⟩
    · exact key false ((bI_0 _).mp e)
    · exact key true ((bI_n0 _).mp e)
  · subst ea
    exact eModel_isOf (m_isPerson1 hC.2.1 hp ⟨fun e => absurd e ne10, fun _ => m_isIn (fun z1 z2 => absurd ⟨z1, z2⟩ q) (fun _ => ⟨fun e => absurd rfl e, fun _ => ⟨rfl, same⟩⟩)⟩)
theorem w_own {T P Y p : Nat} {o : Option Nat} {kd sz : Nat → Nat} {ow : Nat → Option Nat} {dd rh : Nat → Nat → Option Nat} {fm ou : Nat → Nat} (hp : p < P) (ho : ∀ t, o = some t → t < T ∧ ∀ q, ow q = some t → q = p) (w : WCo T P Y kd sz ow dd rh fm ou) : WCo T P Y kd sz (up1 ow p o) dd rh fm ou := by
  obtain ⟨w1, w2, w3, w4, w5⟩ := w
  refine ⟨w1, w2, fun q t h => ?_, fun q r t h1 h2 => ?_, w5⟩
  · rw [up1] at h
    split at h
    · rename_i e
      exact ⟨(ho t h).1, by omega⟩
    · exact w3 q t h
  · rw [up1] at h1 h2
    split at h1
    · rename_i e1
      split at h2
      · rename_i e2
        omega
      · have := (ho t h1).2 r h2
        omega
    · split at h2
      · have := (ho t h2).2 q h1
        omega
      · exact w4 q r t h1 h2
theorem m_own51 {Q : Int32 → gF → (Nat → Int64) → Prop} {F : gF} {G : Nat → Int64} {T P Y : Nat} {kd sz : Nat → Nat} {ow : Nat → Option Nat} {dd rh : Nat → Nat → Option Nat} {fm ou : Nat → Nat} (s : MCo P Y kd sz ow dd rh fm ou F) (w : WCo T P Y kd sz ow dd rh fm ou) (hT : T ≤ 8) {p : Nat} (hp : p < P) (o : Option Nat) (ho : ∀ k, o = some k → k < 2 ^ 31) (h : ∀ F', MCo P Y kd sz (up1 ow p o) dd rh fm ou F' → Fr [46] F F' → Q (oN (ow p)) F' G) : AWi D (d + 1) nModel_own 51 [(0, .ref 39), (1, .int (nI p)), (2, .int (oN o))] [] F G Q := by
  have hP := s.1
  have hi := ix1 (n := 10) (c := p) (by omega) (by omega)
  have hs : MCo P Y kd sz (up1 ow p o) dd rh fm ou (up F 46 p (oM o)) := by
    obtain ⟨m1, m2, m3, m4, m5, m6, m7, m8, m9, m10, m11⟩ := s
    refine ⟨m1, m2, m3, m4, m5, m6, fun q hq => ?_, m8, m9, m10, m11⟩
    rw [up_same, upd_i, up1]
    split
    · rfl
    · exact m7 q hq
  have b74 : AWi D (d + 1) nModel_own 74 [(0, .ref 39), (1, .int (nI p)), (2, .int (oN o)), (3, .int (oM (ow p)))] [.int (oM o), .int (nI p), .ref 47] F G Q := by
    refine bModel_own_74 ⟨hi.1, ?_⟩
    rw [hi.2, oM_pos (fun k hk => by have := w.2.2.1 p k hk; omega)]
    have h' := h _ hs (Fr.rf.up (by decide))
    cases hw : ow p with
    | none => rw [hw] at h'; exact ⟨fun e => absurd rfl e, fun _ => h'⟩
    | some t => rw [hw] at h'; exact ⟨fun _ => h', fun e => absurd (by simp) e⟩
  refine bModel_own_51 ⟨hi.1, ?_⟩
  rw [hi.2, s.2.2.2.2.2.2.1 p hp, oN_N ho]
  refine ⟨fun e => ?_, fun e => ?_⟩
  · cases o with
    | none => exact absurd rfl e
    | some k => exact b74
  · subst e
    exact b74
theorem st_own {a b : Int32} : Step D (d + 4) nDesk_own nModel_own [.int a, .int b] := by
  intro F G ⟨T, dr, pl, mu, lf, P, Y, kd, sz, ow, dd, rh, fm, ou, hc, ca, ho, sl, sv, hS, hC, hN, hT⟩
  have same : RI F := ⟨T, dr, pl, mu, lf, P, Y, kd, sz, ow, dd, rh, fm, ou, hc, ca, ho, sl, sv, hS, hC, hN, hT⟩
  have hP := hC.1.1
  have hT8 := hS.1.1
  refine eDesk_own (c_isPerson hC.1 (fun p hp ea => ⟨fun e => absurd e ne10, fun _ => ⟨fun eb => ?_, fun eb => c_isTrack hS.1 (fun t ht et => ⟨fun _ => ?_, fun e => absurd e ne10⟩) (fun z => ⟨fun e => absurd rfl e, fun _ => ?_⟩)⟩⟩) (fun z => ⟨fun _ => eModel_own (m_isPerson0 hC.2.1 z ⟨fun _ => ⟨rfl, same⟩, fun e => absurd rfl e⟩), fun e => absurd rfl e⟩))
  · subst ea; subst eb
    refine bDesk_own_31 (c_ownerOfN hC.1 ⟨fun _ => ?_, fun e => absurd rfl e⟩)
    refine bDesk_own_54 (c_ownedBy1 hC.1 hp (c_setOwned1 hC.1 hp none (fun F1 s1 f1 => ?_)))
    have ms := MCo_fr f1 (by decide) hC.2.1
    refine eModel_own (m_isPerson1 ms hp ⟨fun e => absurd e ne10, fun _ => ⟨fun _ => bModel_own_25 ⟨fun _ => ?_, fun e => absurd rfl e⟩, fun e => absurd rfl e⟩⟩)
    refine m_own51 ms hC.2.2 hT8 hp none (fun k e => (by cases e)) (fun F2 s2 f2 => ⟨rfl, ?_⟩)
    have f := f1.tr f2
    exact ⟨T, dr, pl, mu, lf, P, Y, kd, sz, _, dd, rh, fm, ou, hc, ca, ho, sl, sv, RS_fr f (by decide) hS, ⟨CCo_fr f2 (by decide) s1, s2, w_own hp (fun t e => by cases e) hC.2.2⟩, RN_fr f (by decide) hN, RT_fr f (by decide) hT⟩
  · subst ea; subst et
    have go : (∀ q, ow q = some t → q = p) → ∀ x : Int32, AWi D (d + 4) nDesk_own 54 [(0, .ref 1), (1, .int (nI p)), (2, .int (nI t)), (3, .int x)] [] F G (fun r F1 G1 => AMi D (d + 4) nModel_own [.ref 39, .int (nI p), .int (nI t)] F1 G1 (fun r' F2 _ => r = r' ∧ RI F2)) := by
      intro hq x
      refine bDesk_own_54 (c_ownedBy1 hC.1 hp (c_setOwned1 hC.1 hp (some t) (fun F1 s1 f1 => ?_)))
      have ms := MCo_fr f1 (by decide) hC.2.1
      have mss := MSh_fr f1 (by decide) hS.2.1
      have fin : AWi D (d + 4) nModel_own 51 [(0, .ref 39), (1, .int (nI p)), (2, .int (nI t))] [] F1 G (fun r' F2 _ => oN (ow p) = r' ∧ RI F2) := by
        refine m_own51 ms hC.2.2 hT8 hp (some t) (fun k e => by cases e; omega) (fun F2 s2 f2 => ⟨rfl, ?_⟩)
        have f := f1.tr f2
        exact ⟨T, dr, pl, mu, lf, P, Y, kd, sz, _, dd, rh, fm, ou, hc, ca, ho, sl, sv, RS_fr f (by decide) hS, ⟨CCo_fr f2 (by decide) s1, s2, w_own hp (fun t' e => by cases e; exact ⟨ht, hq⟩) hC.2.2⟩, RN_fr f (by decide) hN, RT_fr f (by decide) hT⟩
      refine eModel_own (m_isPerson1 ms hp ⟨fun e => absurd e ne10, fun _ => ⟨fun e => absurd e (nI_neN (by omega)), fun _ => m_isTrack1 mss ht ⟨fun _ => bModel_own_25 ⟨fun e => absurd e (nI_neN (by omega)), fun _ => m_owner1 ms hC.2.2 hT8 (by omega) ?_⟩, fun e => absurd e ne10⟩⟩⟩)
      refine ⟨fun _ => fin, fun e => m_owner1 ms hC.2.2 hT8 (by omega) ⟨fun _ => fin, fun e2 => ?_⟩⟩
      cases hf : ownerF ow t P with
      | none => rw [hf] at e; exact absurd (by decide) e
      | some q =>
        have h1 := firstB_lt hf
        have h2 : q = p := hq q (by simpa using h1.2)
        rw [hf, h2] at e2
        exact absurd rfl e2
    have no : (∃ q, ow q = some t ∧ q ≠ p) → AMi D (d + 4) nModel_own [.ref 39, .int (nI p), .int (nI t)] F G (fun r' F2 _ => (-1000000002 : Int32) = r' ∧ RI F2) := by
      rintro ⟨q, hq, hqp⟩
      have hqP := (hC.2.2.2.2.1 q t hq).2
      have hf : ownerF ow t P = some q := firstB_le hqP (by simpa using hq) (fun j hj => by
        cases hx : decide (ow j = some t) with
        | false => rfl
        | true => have := hC.2.2.2.2.2.1 q j t hq (by simpa using hx); omega)
      refine eModel_own (m_isPerson1 hC.2.1 hp ⟨fun e => absurd e ne10, fun _ => ⟨fun e => absurd e (nI_neN (by omega)), fun _ => m_isTrack1 hS.2.1 ht ⟨fun _ => bModel_own_25 ⟨fun e => absurd e (nI_neN (by omega)), fun _ => m_owner1 hC.2.1 hC.2.2 hT8 (by omega) ?_⟩, fun e => absurd e ne10⟩⟩⟩)
      rw [hf]
      refine ⟨fun e => absurd e (nI_pos (by omega)), fun _ => m_owner1 hC.2.1 hC.2.2 hT8 (by omega) ?_⟩
      rw [hf]
      exact ⟨fun e => absurd (nI_inj (by omega) (by omega) e) hqp, fun _ => ⟨rfl, same⟩⟩
    refine bDesk_own_31 (c_ownerOf1 hC.1 hC.2.2 hT8 (by omega) ?_)
    cases hf : ownerF ow t P with
    | none =>
      refine ⟨fun _ => go (fun q hq => ?_) _, fun e => absurd rfl e⟩
      have hqP := (hC.2.2.2.2.1 q t hq).2
      have := firstB_none.mp hf q hqP
      rw [decide_eq_true hq] at this
      cases this
    | some q =>
      have h1 := firstB_lt hf
      have h2 : ow q = some t := by simpa using h1.2
      refine ⟨fun e => absurd e (nI_neN (by omega)), fun _ => ⟨fun e => go (fun r hr => ?_) _, fun e => no ⟨q, h2, fun z => e (by rw [z]; rfl)⟩⟩⟩
      have e1 : q = p := nI_inj (by omega) (by omega) e
      have := hC.2.2.2.2.2.1 r q t hr h2
      omega
  · subst ea
    exact eModel_own (m_isPerson1 hC.2.1 hp ⟨fun e => absurd e ne10, fun _ => ⟨fun e => absurd e eb, fun _ => m_isTrack0 hS.2.1 z ⟨fun e => absurd rfl e, fun _ => ⟨rfl, same⟩⟩⟩⟩)
theorem w_did {T P Y p t : Nat} {kd sz : Nat → Nat} {ow : Nat → Option Nat} {dd rh : Nat → Nat → Option Nat} {fm ou : Nat → Nat} (w : WCo T P Y kd sz ow dd rh fm ou) : WCo T P Y kd sz ow (up2 dd p t (some Y)) rh fm ou := by
  obtain ⟨w1, w2, w3, w4, w5, w6⟩ := w
  refine ⟨w1, w2, w3, w4, fun q u y h => ?_, w6⟩
  rw [up2] at h
  split at h
  · cases h; exact Nat.le_refl _
  · exact w5 q u y h
theorem st_did {a b : Int32} : Step D (d + 3) nDesk_did nModel_did [.int a, .int b] := by
  intro F G ⟨T, dr, pl, mu, lf, P, Y, kd, sz, ow, dd, rh, fm, ou, hc, ca, ho, sl, sv, hS, hC, hN, hT⟩
  have same : RI F := ⟨T, dr, pl, mu, lf, P, Y, kd, sz, ow, dd, rh, fm, ou, hc, ca, ho, sl, sv, hS, hC, hN, hT⟩
  have hP := hC.1.1
  have hT8 := hS.1.1
  refine eDesk_did (c_isPerson hC.1 (fun p hp ea => ⟨fun e => absurd e ne10, fun _ => c_isTrack hS.1 (fun t ht et => ⟨fun _ => ?_, fun e => absurd e ne10⟩) (fun z => ⟨fun e => absurd rfl e, fun _ => ?_⟩)⟩) (fun z => ⟨fun _ => eModel_did (m_isPerson0 hC.2.1 z ⟨fun _ => ⟨rfl, same⟩, fun e => absurd rfl e⟩), fun e => absurd rfl e⟩))
  · subst ea; subst et
    obtain ⟨e1, e2⟩ := jx8 (p := p) (t := t) (by omega) (by omega)
    refine c_daysDid1 hC.1 hC.2.2 hp (by omega) (c_setDid1 hC.1 hp (by omega) (fun F1 s1 f1 => ?_))
    have ms := MCo_fr f1 (by decide) hC.2.1
    refine eModel_did (m_isPerson1 ms hp ⟨fun e => absurd e ne10, fun _ => m_isTrack1 (MSh_fr f1 (by decide) hS.2.1) ht ⟨fun _ => ⟨e1, e1, ?_⟩, fun e => absurd e ne10⟩⟩)
    obtain ⟨m1, m2, m3, m4, m5, m6, m7, m8, m9, m10, m11⟩ := ms
    have f2 : Fr [47] F1 (up F1 47 (p * 8 + t) (F1 112 0)) := Fr.rf.up (by decide)
    have f := f1.tr f2
    have fin : RI (up F1 47 (p * 8 + t) (F1 112 0)) := by
      refine ⟨T, dr, pl, mu, lf, P, Y, kd, sz, ow, up2 dd p t (some Y), rh, fm, ou, hc, ca, ho, sl, sv, RS_fr f (by decide) hS, ⟨CCo_fr f2 (by decide) s1, ⟨m1, m2, m3, m4, m5, m6, m7, fun p' t' q1 q2 => ?_, m9, m10, m11⟩, w_did hC.2.2⟩, RN_fr f (by decide) hN, RT_fr f (by decide) hT⟩
      rw [up_same, upd_i, up2, m4]
      by_cases e : p' = p ∧ t' = t
      · rw [if_pos (by rw [e.1, e.2]), if_pos e]; rfl
      · rw [if_neg (fun z => e (by omega)), if_neg e]
        exact m8 p' t' q1 q2
    rw [e2, m8 p t (by omega) (by omega), up_ne _ _ _ (by decide), oM_pos (fun k hk => by have := hC.2.2.2.2.2.2.1 p t k hk; omega)]
    cases hd : dd p t with
    | none => exact ⟨fun e => absurd rfl e, fun _ => ⟨rfl, fin⟩⟩
    | some y =>
      have hy := hC.2.2.2.2.2.2.1 p t y hd
      refine ⟨fun _ => ⟨?_, fin⟩, fun e => absurd (by simp) e⟩
      rw [m4, oM_some, pk_sub hy]
      rfl
  · subst ea
    exact eModel_did (m_isPerson1 hC.2.1 hp ⟨fun e => absurd e ne10, fun _ => m_isTrack0 hS.2.1 z ⟨fun e => absurd rfl e, fun _ => ⟨rfl, same⟩⟩⟩)
theorem st_fresh {a b : Int32} : Step D (d + 4) nDesk_fresh nModel_fresh [.int a, .int b] := by
  intro F G ⟨T, dr, pl, mu, lf, P, Y, kd, sz, ow, dd, rh, fm, ou, hc, ca, ho, sl, sv, hS, hC, hN, hT⟩
  have same : RI F := ⟨T, dr, pl, mu, lf, P, Y, kd, sz, ow, dd, rh, fm, ou, hc, ca, ho, sl, sv, hS, hC, hN, hT⟩
  have hT8 := hS.1.1
  refine eDesk_fresh (c_isPerson hC.1 (fun p hp ea => ⟨fun e => absurd e ne10, fun _ => c_isTrack hS.1 (fun t ht et => ⟨fun _ => ?_, fun e => absurd e ne10⟩) (fun z => ⟨fun e => absurd rfl e, fun _ => ?_⟩)⟩) (fun z => ⟨fun _ => eModel_fresh (m_isPerson0 hC.2.1 z ⟨fun _ => ⟨rfl, same⟩, fun e => absurd rfl e⟩), fun e => absurd rfl e⟩))
  · subst ea; subst et
    refine c_knows1 hC.1 hC.2.2 hp (by omega) ⟨fun e => c_isFresh1 hC.1 hC.2.2 hp (by omega) ⟨fun e2 => ?_, fun e2 => ?_⟩, fun e => ?_⟩
    · refine eModel_fresh (m_isPerson1 hC.2.1 hp ⟨fun e => absurd e ne10, fun _ => m_isTrack1 hS.2.1 ht ⟨fun _ => m_knows1 hC.2.1 hC.2.2 hp (by omega) ⟨fun _ => m_isFresh1 hC.2.1 hC.2.2 hp (by omega) ⟨fun _ => ⟨rfl, same⟩, fun e3 => absurd e2 e3⟩, fun e3 => absurd e3 e⟩, fun e => absurd e ne10⟩⟩)
    · refine eModel_fresh (m_isPerson1 hC.2.1 hp ⟨fun e => absurd e ne10, fun _ => m_isTrack1 hS.2.1 ht ⟨fun _ => m_knows1 hC.2.1 hC.2.2 hp (by omega) ⟨fun _ => m_isFresh1 hC.2.1 hC.2.2 hp (by omega) ⟨fun e3 => absurd e3 e2, fun _ => ⟨rfl, same⟩⟩, fun e3 => absurd e3 e⟩, fun e => absurd e ne10⟩⟩)
    · refine eModel_fresh (m_isPerson1 hC.2.1 hp ⟨fun e => absurd e ne10, fun _ => m_isTrack1 hS.2.1 ht ⟨fun _ => m_knows1 hC.2.1 hC.2.2 hp (by omega) ⟨fun e3 => absurd e e3, fun _ => ⟨rfl, same⟩⟩, fun e => absurd e ne10⟩⟩)
  · subst ea
    exact eModel_fresh (m_isPerson1 hC.2.1 hp ⟨fun e => absurd e ne10, fun _ => m_isTrack0 hS.2.1 z ⟨fun e => absurd rfl e, fun _ => ⟨rfl, same⟩⟩⟩)
theorem w_reh {T P Y p q : Nat} {kd sz : Nat → Nat} {ow : Nat → Option Nat} {dd rh : Nat → Nat → Option Nat} {fm ou : Nat → Nat} (hpq : p ≠ q) (w : WCo T P Y kd sz ow dd rh fm ou) : WCo T P Y kd sz ow dd (up2 rh p q (some Y)) fm ou := by
  obtain ⟨w1, w2, w3, w4, w5, w6, w7, w8⟩ := w
  refine ⟨w1, w2, w3, w4, w5, fun r u y h => ?_, fun r => ?_, w8⟩
  · rw [up2] at h
    split at h
    · cases h; exact Nat.le_refl _
    · exact w6 r u y h
  · rw [up2, if_neg (fun z => hpq (z.1.symm.trans z.2))]
    exact w7 r
theorem notTwo {P : Nat} {a b : Int32} (h : ¬ (vp_in a P ∧ vp_in b P ∧ a ≠ b)) : ¬ vp_in a P ∨ ¬ vp_in b P ∨ a = b := by
  by_cases h1 : vp_in a P
  · by_cases h2 : vp_in b P
    · exact Or.inr (Or.inr (Decidable.byContradiction (fun h3 => h ⟨h1, h2, h3⟩)))
    · exact Or.inr (Or.inl h2)
  · exact Or.inl h1
theorem st_rehearse {a b : Int32} : Step D (d + 4) nDesk_rehearse nModel_rehearse [.int a, .int b] := by
  intro F G ⟨T, dr, pl, mu, lf, P, Y, kd, sz, ow, dd, rh, fm, ou, hc, ca, ho, sl, sv, hS, hC, hN, hT⟩
  have same : RI F := ⟨T, dr, pl, mu, lf, P, Y, kd, sz, ow, dd, rh, fm, ou, hc, ca, ho, sl, sv, hS, hC, hN, hT⟩
  have hP := hC.1.1
  refine eDesk_rehearse (c_areTwo hC.1 (fun p q hp hq hpq ea eb => ⟨fun _ => ?_, fun e => absurd e ne10⟩) (fun z => ⟨fun e => absurd rfl e, fun _ => ?_⟩))
  · subst ea; subst eb
    obtain ⟨e1, e2⟩ := jx10 (p := p) (q := q) (by omega) (by omega)
    refine c_daysReh1 hC.1 hC.2.2 hp hq (c_setReh1 hC.1 hp hq hpq (fun F1 s1 f1 => ?_))
    have ms := MCo_fr f1 (by decide) hC.2.1
    refine eModel_rehearse (m_isPerson1 ms hp ⟨fun e => absurd e ne10, fun _ => m_isPerson1 ms hq ⟨fun e => absurd e ne10, fun _ => ⟨fun _ => ⟨e1, e1, ?_⟩, fun e => absurd (nI_inj (by omega) (by omega) e) hpq⟩⟩⟩)
    obtain ⟨m1, m2, m3, m4, m5, m6, m7, m8, m9, m10, m11⟩ := ms
    have f2 : Fr [48] F1 (up F1 48 (p * 10 + q) (F1 112 0)) := Fr.rf.up (by decide)
    have f := f1.tr f2
    have fin : RI (up F1 48 (p * 10 + q) (F1 112 0)) := by
      refine ⟨T, dr, pl, mu, lf, P, Y, kd, sz, ow, dd, up2 rh p q (some Y), fm, ou, hc, ca, ho, sl, sv, RS_fr f (by decide) hS, ⟨CCo_fr f2 (by decide) s1, ⟨m1, m2, m3, m4, m5, m6, m7, m8, fun p' t' q1 q2 => ?_, m10, m11⟩, w_reh hpq hC.2.2⟩, RN_fr f (by decide) hN, RT_fr f (by decide) hT⟩
      rw [up_same, upd_i, up2, m4]
      by_cases e : p' = p ∧ t' = q
      · rw [if_pos (by rw [e.1, e.2]), if_pos e]; rfl
      · rw [if_neg (fun z => e (by omega)), if_neg e]
        exact m9 p' t' q1 q2
    rw [e2, m9 p q (by omega) (by omega), up_ne _ _ _ (by decide), oM_pos (fun k hk => by have := hC.2.2.2.2.2.2.2.1 p q k hk; omega)]
    cases hd : rh p q with
    | none => exact ⟨fun e => absurd rfl e, fun _ => ⟨rfl, fin⟩⟩
    | some y =>
      have hy := hC.2.2.2.2.2.2.2.1 p q y hd
      refine ⟨fun _ => ⟨?_, fin⟩, fun e => absurd (by simp) e⟩
      rw [m4, oM_some, pk_sub hy]
      rfl
  · refine eModel_rehearse (m_isPerson hC.2.1 (fun p hp ea => ⟨fun e => absurd e ne10, fun _ => m_isPerson hC.2.1 (fun q hq eb => ⟨fun e => absurd e ne10, fun _ => ⟨fun hne => ?_, fun _ => ⟨rfl, same⟩⟩⟩) (fun _ => ⟨fun _ => ⟨rfl, same⟩, fun e => absurd rfl e⟩)⟩) (fun _ => ⟨fun _ => ⟨rfl, same⟩, fun e => absurd rfl e⟩))
    exact absurd ⟨by rw [ea]; exact vp_in_nI hp (by omega), by rw [eb]; exact vp_in_nI hq (by omega), hne⟩ z
theorem st_out {a b : Int32} : Step D (d + 3) nDesk_out nModel_out [.int a, .int b] := by
  intro F G ⟨T, dr, pl, mu, lf, P, Y, kd, sz, ow, dd, rh, fm, ou, hc, ca, ho, sl, sv, hS, hC, hN, hT⟩
  have same : RI F := ⟨T, dr, pl, mu, lf, P, Y, kd, sz, ow, dd, rh, fm, ou, hc, ca, ho, sl, sv, hS, hC, hN, hT⟩
  have hP := hC.1.1
  refine eDesk_out (c_isPerson hC.1 (fun p hp ea => ⟨fun e => absurd e ne10, fun _ => c_isWithin (fun q1 q2 => ⟨fun _ => ?_, fun e => absurd e ne10⟩) (fun q => ⟨fun e => absurd rfl e, fun _ => ?_⟩)⟩) (fun z => ⟨fun _ => eModel_out (m_isPerson0 hC.2.1 z ⟨fun _ => ⟨rfl, same⟩, fun e => absurd rfl e⟩), fun e => absurd rfl e⟩))
  · subst ea
    obtain ⟨c, -, c2, rfl⟩ := rng 0 30 (by omega) (by omega) q1 q2
    have hi := ix1 (n := 10) (c := p) (by omega) (by omega)
    refine c_outFrom1 hC.1 hp (c_setOut1 hC.1 hp (fun F1 s1 f1 => ?_))
    have ms := MCo_fr f1 (by decide) hC.2.1
    refine eModel_out (m_isPerson1 ms hp ⟨fun e => absurd e ne10, fun _ => m_isIn (fun _ _ => ⟨fun _ => ⟨hi.1, hi.1, ?_⟩, fun e => absurd e ne10⟩) (fun z => absurd ⟨q1, q2⟩ z)⟩)
    obtain ⟨m1, m2, m3, m4, m5, m6, m7, m8, m9, m10, m11⟩ := ms
    rw [hi.2, m11 p hp]
    have f2 : Fr [50] F1 (up F1 50 p (nI c)) := Fr.rf.up (by decide)
    have f := f1.tr f2
    refine ⟨rfl, T, dr, pl, mu, lf, P, Y, kd, sz, ow, dd, rh, fm, up1 ou p c, hc, ca, ho, sl, sv, RS_fr f (by decide) hS, ⟨CCo_fr f2 (by decide) s1, ⟨m1, m2, m3, m4, m5, m6, m7, m8, m9, m10, fun q hq => ?_⟩, ?_⟩, RN_fr f (by decide) hN, RT_fr f (by decide) hT⟩
    · rw [up_same, upd_i, up1]
      split
      · rfl
      · exact m11 q hq
    · obtain ⟨w1, w2, w3, w4, w5, w6, w7, w8, w9, w10, w11, w12⟩ := hC.2.2
      refine ⟨w1, w2, w3, w4, w5, w6, w7, w8, w9, w10, fun q => ?_, fun q hq => ?_⟩
      · rw [up1]
        split
        · exact c2
        · exact w11 q
      · rw [up1, if_neg (by omega)]
        exact w12 q hq
  · subst ea
    exact eModel_out (m_isPerson1 hC.2.1 hp ⟨fun e => absurd e ne10, fun _ => m_isIn (fun z1 z2 => absurd ⟨z1, z2⟩ q) (fun _ => ⟨fun e => absurd rfl e, fun _ => ⟨rfl, same⟩⟩)⟩)
end STEPS3
