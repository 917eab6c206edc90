section STEPS4
variable {D : va_G} {d : Nat}
theorem tb_setb (m q r : Nat) (on : Bool) : (setb m q on).testBit r = if r = q then on else m.testBit r := by
  unfold setb
  by_cases h : m.testBit q = on
  · rw [if_pos h]
    by_cases e : r = q
    · rw [if_pos e, e, h]
    · rw [if_neg e]
  · rw [if_neg h, Nat.testBit_xor, Nat.testBit_two_pow]
    by_cases e : r = q
    · subst e
      rw [if_pos rfl, decide_eq_true rfl]
      cases on <;> cases hm : m.testBit r <;> simp_all
    · rw [if_neg e, decide_eq_false (fun z => e z.symm)]
      simp
theorem setb_lt {m q P : Nat} {on : Bool} (hm : m < 2 ^ P) (hq : q < P) : setb m q on < 2 ^ P := by
  unfold setb
  split
  · exact hm
  · exact Nat.xor_lt_two_pow hm (Nat.pow_lt_pow_right (by decide) hq)
theorem w_feud {T P Y p q : Nat} {on : Bool} {kd sz : Nat → Nat} {ow : Nat → Option Nat} {dd rh : Nat → Nat → Option Nat} {fm ou : Nat → Nat} (hp : p < P) (hq : q < P) (hpq : p ≠ q) (w : WCo T P Y kd sz ow dd rh fm ou) : WCo T P Y kd sz ow dd rh (up1 (up1 fm p (setb (fm p) q on)) q (setb (fm q) p on)) ou := by
  obtain ⟨w1, w2, w3, w4, w5, w6, w7, w8, w9, w10, w11, w12⟩ := w
  have key : ∀ r x, (up1 (up1 fm p (setb (fm p) q on)) q (setb (fm q) p on) r).testBit x = if (r = p ∧ x = q) ∨ (r = q ∧ x = p) then on else (fm r).testBit x := by
    intro r x
    rw [up1, up1]
    by_cases e1 : r = q
    · subst e1
      rw [if_pos rfl, tb_setb]
      by_cases e2 : x = p
      · rw [if_pos e2, if_pos (Or.inr ⟨rfl, e2⟩)]
      · rw [if_neg e2, if_neg (by rintro (⟨z, _⟩ | ⟨_, z⟩) <;> omega)]
    · rw [if_neg e1]
      by_cases e2 : r = p
      · subst e2
        rw [if_pos rfl, tb_setb]
        by_cases e3 : x = q
        · rw [if_pos e3, if_pos (Or.inl ⟨rfl, e3⟩)]
        · rw [if_neg e3, if_neg (by rintro (⟨_, z⟩ | ⟨z, _⟩) <;> omega)]
      · rw [if_neg e2, if_neg (by rintro (⟨z, _⟩ | ⟨z, _⟩) <;> omega)]
  refine ⟨w1, w2, w3, w4, w5, w6, w7, fun r => ?_, fun r x => ?_, fun r => ?_, w11, w12⟩
  · rw [up1, up1]
    split
    · exact setb_lt (w8 q) hp
    · split
      · exact setb_lt (w8 p) hq
      · exact w8 r
  · rw [key, key, w9 r x]
    by_cases e : (r = p ∧ x = q) ∨ (r = q ∧ x = p)
    · rw [if_pos e, if_pos (by rcases e with ⟨a, b⟩ | ⟨a, b⟩ <;> simp [a, b])]
    · rw [if_neg e, if_neg (by rintro (⟨a, b⟩ | ⟨a, b⟩); exact e (Or.inr ⟨b, a⟩); exact e (Or.inl ⟨b, a⟩))]
  · rw [key, if_neg (by rintro (⟨a, b⟩ | ⟨a, b⟩) <;> omega)]
    exact w10 r
theorem st_feud {a b c : Int32} : Step D (d + 4) nDesk_feud nModel_feud [.int a, .int b, .int c] := by
  intro F G ⟨T, dr, pl, mu, lf, P, Y, kd, sz, ow, dd, rh, fm, ou, hc, ca, ho, sl, sv, hS, hC, hN, hT⟩
  have same : RI F := ⟨T, dr, pl, mu, lf, P, Y, kd, sz, ow, dd, rh, fm, ou, hc, ca, ho, sl, sv, hS, hC, hN, hT⟩
  have hP := hC.1.1
  have bad : ¬ ((vp_in a P ∧ vp_in b P ∧ a ≠ b) ∧ (0 ≤ c ∧ c ≤ 1)) → AMi D (d + 4) nModel_feud [.ref 39, .int a, .int b, .int c] F G (fun r' F2 _ => (-1000000001 : Int32) = r' ∧ RI F2) := by
    intro hb
    refine eModel_feud (m_isPerson hC.2.1 (fun p hp ea => ⟨fun e => absurd e ne10, fun _ => m_isPerson hC.2.1 (fun q hq eb => ⟨fun e => absurd e ne10, fun _ => ⟨fun _ => ⟨rfl, same⟩, fun hne => m_isIn (fun z1 z2 => ?_) (fun _ => ⟨fun e => absurd rfl e, fun _ => ⟨rfl, same⟩⟩)⟩⟩) (fun _ => ⟨fun _ => ⟨rfl, same⟩, fun e => absurd rfl e⟩)⟩) (fun _ => ⟨fun _ => ⟨rfl, same⟩, fun e => absurd rfl e⟩))
    exact absurd ⟨⟨by rw [ea]; exact vp_in_nI hp (by omega), by rw [eb]; exact vp_in_nI hq (by omega), hne⟩, z1, z2⟩ hb
  refine eDesk_feud (c_areTwo hC.1 (fun p q hp hq hpq ea eb => ⟨fun e => absurd e ne10, fun _ => c_isFlag (fun z1 z2 => ⟨fun _ => ?_, fun e => absurd e ne10⟩) (fun z => ⟨fun e => absurd rfl e, fun _ => bad (fun y => z y.2)⟩)⟩) (fun z => ⟨fun _ => bad (fun y => z y.1), fun e => absurd rfl e⟩))
  subst ea; subst eb
  obtain ⟨on, rfl⟩ := b01 z1 z2
  have hip := ix1 (n := 10) (c := p) (by omega) (by omega)
  have hiq := ix1 (n := 10) (c := q) (by omega) (by omega)
  refine c_areFoes1 hC.1 hC.2.2 hp hq ?_
  have go : AWi D (d + 4) nDesk_feud 39 [(0, .ref 1), (1, .int (nI p)), (2, .int (nI q)), (3, .int (bI on))] [.int (bI ((fm p).testBit q))] F G (fun r F1 G1 => AMi D (d + 4) nModel_feud [.ref 39, .int (nI p), .int (nI q), .int (bI on)] F1 G1 (fun r' F2 _ => r = r' ∧ RI F2)) := by
    have g57 : AWi D (d + 4) nDesk_feud 57 [(0, .ref 1), (1, .int (nI p)), (2, .int (nI q)), (3, .int (bI on)), (4, .int (bI ((fm p).testBit q)))] [.int (bI on), .int (nI q), .int (nI p), .ref 8] F G (fun r F1 G1 => AMi D (d + 4) nModel_feud [.ref 39, .int (nI p), .int (nI q), .int (bI on)] F1 G1 (fun r' F2 _ => r = r' ∧ RI F2)) := by
      refine bDesk_feud_57 (c_setFoes1 hC.1 hC.2.2 hp hq hpq on (fun F1 s1 f1 => ?_))
      have ms := MCo_fr f1 (by decide) hC.2.1
      refine eModel_feud (m_isPerson1 ms hp ⟨fun e => absurd e ne10, fun _ => m_isPerson1 ms hq ⟨fun e => absurd e ne10, fun _ => ⟨fun e => absurd (nI_inj (by omega) (by omega) e) hpq, fun _ => m_isIn (fun _ _ => ⟨fun _ => ⟨hip.1, ?_⟩, fun e => absurd e ne10⟩) (fun z => absurd ⟨z1, z2⟩ z)⟩⟩⟩)
      obtain ⟨m1, m2, m3, m4, m5, m6, m7, m8, m9, m10, m11⟩ := ms
      rw [hip.2, m10 p (by omega), bt_and1 (fm p) (fm1024 hC.1 hC.2.2 p) q (by omega)]
      refine ⟨fun e => ⟨rfl, ?_⟩, fun e => ⟨hip.1, hip.1, hiq.1, hiq.1, rfl, ?_⟩⟩
      · have e1 : (fm p).testBit q = on := by
          cases on <;> cases hx : (fm p).testBit q <;> rw [hx] at e <;> first | rfl | exact absurd e (by decide)
        refine ⟨T, dr, pl, mu, lf, P, Y, kd, sz, ow, dd, rh, _, ou, hc, ca, ho, sl, sv, RS_fr f1 (by decide) hS, ⟨s1, ⟨m1, m2, m3, m4, m5, m6, m7, m8, m9, fun r hr => ?_, m11⟩, w_feud hp hq hpq hC.2.2⟩, RN_fr f1 (by decide) hN, RT_fr f1 (by decide) hT⟩
        have e2 : (fm q).testBit p = on := by rw [hC.2.2.2.2.2.2.2.2.2.2.1 q p]; exact e1
        have e3 : up1 (up1 fm p (setb (fm p) q on)) q (setb (fm q) p on) r = fm r := by
          rw [up1, up1]
          split
          · rename_i z; rw [z]; unfold setb; rw [if_pos e2]
          · split
            · rename_i z; rw [z]; unfold setb; rw [if_pos e1]
            · rfl
        rw [e3]
        exact m10 r hr
      · have e1 : ¬ (fm p).testBit q = on := fun z => e (by rw [z])
        have e2 : ¬ (fm q).testBit p = on := by rw [hC.2.2.2.2.2.2.2.2.2.2.1 q p]; exact e1
        have f2 : Fr [49] F1 (up (up F1 49 p (nI (fm p) ^^^ (1 <<< (nI q &&& 31)))) 49 (nI q).toNatClampNeg ((up F1 49 p (nI (fm p) ^^^ (1 <<< (nI q &&& 31)))) 49 (nI q).toNatClampNeg ^^^ (1 <<< (nI p &&& 31)))) := (Fr.rf.up (by decide)).up (by decide)
        have f := f1.tr f2
        refine ⟨T, dr, pl, mu, lf, P, Y, kd, sz, ow, dd, rh, _, ou, hc, ca, ho, sl, sv, RS_fr f (by decide) hS, ⟨CCo_fr f2 (by decide) s1, ⟨m1, m2, m3, m4, m5, m6, m7, m8, m9, fun r hr => ?_, m11⟩, w_feud hp hq hpq hC.2.2⟩, RN_fr f (by decide) hN, RT_fr f (by decide) hT⟩
        have hin : ∀ x, (up F1 49 p x) 49 q = nI (fm q) := fun x => by
          rw [up_same, upd_i, if_neg (fun z => hpq z.symm)]
          exact m10 q (by omega)
        rw [hiq.2, hin, bt_xor (fm p) (fm1024 hC.1 hC.2.2 p) q (by omega), bt_xor (fm q) (fm1024 hC.1 hC.2.2 q) p (by omega), up_same, upd_i, up1]
        unfold setb
        rw [if_neg e1, if_neg e2]
        split
        · rfl
        · rw [up_same, upd_i, up1]
          split
          · rfl
          · exact m10 r hr
    refine bDesk_feud_39 ?_
    cases on with
    | true => exact ⟨fun e => absurd rfl e, fun _ => g57⟩
    | false => exact ⟨fun _ => g57, fun e => absurd e (by decide)⟩
  cases hx : (fm p).testBit q with
  | true => rw [hx] at go; exact ⟨fun e => absurd e ne10, fun _ => go⟩
  | false => rw [hx] at go; exact ⟨fun _ => go, fun e => absurd rfl e⟩
theorem c_clear1 {Qv : gF → (Nat → Int64) → Prop} {F : gF} {G : Nat → Int64} {ho : Nat → Nat → Option Nat} (h : ∀ F', CNi false (fun _ => none) ho F' → (∀ t c, t < 8 → c < 30 → F' 17 (t * 30 + c) = gNONE) → Fr [16, 17, 103] F F' → Qv F' G) : AMv D (d + 2) nNight_clear [.ref 16] F G Qv := by
  refine eNight_clear (h _ ⟨?_, fun t ht => ?_, fun e => by cases e⟩ (fun t c ht hc => ?_) (((Fr.rf.up (by decide)).up (by decide)).up (by decide)))
  · rw [upA_ne _ _ (by decide), upA_ne _ _ (by decide), upS_same]; rfl
  · rw [upA_ne _ _ (by decide), upA_same, gFl, if_pos ht]; rfl
  · rw [upA_same, gFl, if_pos (by omega)]
theorem w_days {T P Y n : Nat} {kd sz : Nat → Nat} {ow : Nat → Option Nat} {dd rh : Nat → Nat → Option Nat} {fm ou : Nat → Nat} (w : WCo T P Y kd sz ow dd rh fm ou) : WCo T P (Y + n) kd sz ow dd rh fm (fun _ => 30) := by
  obtain ⟨w1, w2, w3, w4, w5, w6, w7, w8, w9, w10, w11, w12⟩ := w
  exact ⟨w1, w2, w3, w4, fun p t y h => by have := w5 p t y h; omega, fun p q y h => by have := w6 p q y h; omega, w7, w8, w9, w10, fun _ => Nat.le_refl _, fun _ _ => rfl⟩
theorem m_days37 {Q : Int32 → gF → (Nat → Int64) → Prop} {G : Nat → Int64} {P Y : Nat} {kd sz : Nat → Nat} {ow : Nat → Option Nat} {dd rh : Nat → Nat → Option Nat} {fm : Nat → Nat} {x1 : Int32} : ∀ (k i : Nat) (F : gF) (ou : Nat → Nat), i + k = P → MCo P Y kd sz ow dd rh fm ou F → (∀ p, p < i → ou p = 30) → (∀ F', MCo P Y kd sz ow dd rh fm (fun _ => 30) F' → F' 113 0 = bI false → Fr [50, 113] F F' → Q (nI Y) F' G) → AWi D (d + 1) nModel_days 37 [(0, .ref 39), (1, .int x1), (2, .int (nI i))] [] F G Q := by
  intro k
  induction k with
  | zero =>
    intro i F ou hi s hou h
    have hP := s.1
    refine bModel_days_37 ?_
    rw [s.2.1, nI_leI (by omega) (by omega)]
    refine ⟨fun _ => ?_, fun e => absurd (by omega) e⟩
    obtain ⟨m1, m2, m3, m4, m5, m6, m7, m8, m9, m10, m11⟩ := s
    rw [upS_ne _ _ (by decide), m4]
    refine h _ ⟨m1, m2, m3, m4, m5, m6, m7, m8, m9, m10, fun p hp => ?_⟩ (by rw [upS_same]; rfl) (Fr.rf.up (by decide))
    rw [upS_ne _ _ (by decide), m11 p hp, hou p (by omega)]
  | succ k ih =>
    intro i F ou hi s hou h
    have hP := s.1
    have hx := ix1 (n := 10) (c := i) (by omega) (by omega)
    refine bModel_days_37 ?_
    rw [s.2.1, nI_leI (by omega) (by omega)]
    refine ⟨fun e => absurd e (by omega), fun _ => ⟨hx.1, ?_⟩⟩
    rw [hx.2, nI_1]
    obtain ⟨m1, m2, m3, m4, m5, m6, m7, m8, m9, m10, m11⟩ := s
    refine ih (i + 1) (up F 50 i 30) (up1 ou i 30) (by omega) ⟨m1, m2, m3, m4, m5, m6, m7, m8, m9, m10, fun p hp => ?_⟩ (fun p hp => ?_) (fun F' s' e' f' => h F' s' e' (((Fr.rf (ks := [50, 113]).up (by decide)).tr f').sub (by decide)))
    · rw [up_same, upd_i, up1]
      split
      · rfl
      · exact m11 p hp
    · rw [up1]
      split
      · rfl
      · exact hou p (by omega)
theorem st_days {a : Int32} : Step D (d + 3) nDesk_days nModel_days [.int a] := by
  intro F G ⟨T, dr, pl, mu, lf, P, Y, kd, sz, ow, dd, rh, fm, ou, hc, ca, ho, sl, sv, hS, hC, hN, hT⟩
  have same : RI F := ⟨T, dr, pl, mu, lf, P, Y, kd, sz, ow, dd, rh, fm, ou, hc, ca, ho, sl, sv, hS, hC, hN, hT⟩
  have hY := hC.1.2.2.1
  refine eDesk_days (c_isWithin (fun q1 q2 => ⟨fun e => absurd e ne10, fun _ => c_today hC.1 ?_⟩) (fun q => ⟨fun _ => ?_, fun e => absurd rfl e⟩))
  · obtain ⟨n, n1, n2, rfl⟩ := rng 1 60 (by omega) (by omega) q1 q2
    rw [nI_add, l400, nI_leI (by omega) (by omega)]
    refine ⟨fun h4 => c_passDays1 hC.1 h4 (fun F1 s1 f1 => c_clear1 (ho := ho) (fun F2 s2 _ f2 => c_today (CCo_fr f2 (by decide) s1) ?_)), fun h4 => ?_⟩
    · have f12 := f1.tr f2
      have ms := MCo_fr f12 (by decide) hC.2.1
      refine eModel_days (m_isIn (fun _ _ => ⟨fun e => absurd e ne10, fun _ => ?_⟩) (fun z => absurd ⟨q1, q2⟩ z))
      rw [ms.2.2.2.1, nI_add, l400, nI_leI (by omega) (by omega)]
      refine ⟨fun _ => ?_, fun e => absurd h4 e⟩
      obtain ⟨m1, m2, m3, m4, m5, m6, m7, m8, m9, m10, m11⟩ := ms
      refine m_days37 P 0 (upS F2 112 (nI (Y + n))) ou (by omega) ⟨m1, m2, h4, by rw [upS_same], m5, m6, m7, m8, m9, m10, m11⟩ (fun p hp => by omega) (fun F' s' e' f' => ⟨rfl, ?_⟩)
      have f3 : Fr [112, 50, 113] F2 F' := ((Fr.rf (ks := [112]).up (by decide)).tr f').sub (by decide)
      have f := f12.tr f3
      refine ⟨T, dr, pl, mu, lf, P, Y + n, kd, sz, ow, dd, rh, fm, fun _ => 30, false, fun _ => none, ho, sl, sv, RS_fr f (by decide) hS, ⟨CCo_fr f3 (by decide) (CCo_fr f2 (by decide) s1), s', w_days hC.2.2⟩, ⟨CNi_fr f3 (by decide) s2, ⟨e', fun h => (by cases h), fun h => by cases h⟩, fun _ _ => rfl, fun t p h => (by cases h), fun h => by cases h⟩, RT_fr f (by decide) hT⟩
    · refine eModel_days (m_isIn (fun _ _ => ⟨fun e => absurd e ne10, fun _ => ?_⟩) (fun z => absurd ⟨q1, q2⟩ z))
      rw [hC.2.1.2.2.2.1, nI_add, l400, nI_leI (by omega) (by omega)]
      exact ⟨fun e => absurd e h4, fun _ => ⟨rfl, same⟩⟩
  · exact eModel_days (m_isIn (fun z1 z2 => absurd ⟨z1, z2⟩ q) (fun _ => ⟨fun _ => ⟨rfl, same⟩, fun e => absurd rfl e⟩))
end STEPS4
