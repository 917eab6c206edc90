/-! STEPS: a call on both sides gives one answer and keeps one world; the show and the people -/
theorem rng {a : Int32} (lo hi : Nat) (hlo : lo < 2 ^ 31) (hhi : hi < 2 ^ 31) (h1 : nI lo ≤ a) (h2 : a ≤ nI hi) : ∃ g, lo ≤ g ∧ g ≤ hi ∧ a = nI g := by
  rw [Int32.le_iff_toInt_le, nI_toInt hlo] at h1
  rw [Int32.le_iff_toInt_le, nI_toInt hhi] at h2
  have hin : vp_in a (hi + 1) := by rw [vp_in_iff]; omega
  by_cases hh : hi + 1 < 2 ^ 31
  · obtain ⟨j, hj, e⟩ := vp_in_of hin hh
    refine ⟨j, ?_, by omega, e⟩
    rw [e, nI_toInt (by omega)] at h1
    omega
  · obtain ⟨j, hj, e⟩ := nI_of (x := a) (by rw [Int32.lt_iff_toInt_lt]; simp; omega)
    refine ⟨j, ?_, by omega, e⟩
    rw [e, nI_toInt (by omega)] at h1
    omega
theorem b01 {a : Int32} (h1 : 0 ≤ a) (h2 : a ≤ 1) : ∃ b : Bool, a = bI b := by
  obtain ⟨g, -, g2, rfl⟩ := rng 0 1 (by omega) (by omega) h1 h2
  rcases (show g = 0 ∨ g = 1 by omega) with rfl | rfl
  · exact ⟨false, rfl⟩
  · exact ⟨true, rfl⟩
section STEPS1
variable {D : va_G} {d : Nat}
theorem w_track {T P Y g : Nat} {dr : Nat → Nat} {pl : Nat → Nat → Option Nat} {mu : Nat → Nat → Bool} {lf : Nat → Option (Nat × Nat)} (hg : g ≤ 9) (w : WSh T dr pl mu lf) : WSh (T + 1) (up1 dr T g) pl mu lf := by
  obtain ⟨w1, w2, w3, w4⟩ := w
  refine ⟨fun t ht => ?_, w2, w3, fun c a b h => ?_⟩
  · rw [up1]
    split
    · exact hg
    · exact w1 t (by omega)
  · have := w4 c a b h
    exact ⟨by omega, by omega, this.2.2⟩
theorem w_trackC {T P Y : Nat} {kd sz : Nat → Nat} {ow : Nat → Option Nat} {dd rh : Nat → Nat → Option Nat} {fm ou : Nat → Nat} (w : WCo T P Y kd sz ow dd rh fm ou) : WCo (T + 1) P Y kd sz ow dd rh fm ou := by
  obtain ⟨w1, w2, w3, w4⟩ := w
  exact ⟨w1, w2, fun p t h => ⟨by have := w3 p t h; omega, (w3 p t h).2⟩, w4⟩
theorem st_track {a : Int32} : Step D (d + 2) nDesk_track nModel_track [.int a] := by
  intro F G ⟨T, dr, pl, mu, lf, P, Y, kd, sz, ow, dd, rh, fm, ou, hc, ca, ho, sl, sv, hS, hC, hN, hT⟩
  refine eDesk_track (c_isWithin (fun q1 q2 => ⟨fun e => absurd e ne10, fun _ => ?_⟩) (fun q => ⟨fun _ => ?_, fun e => absurd rfl e⟩))
  · obtain ⟨g, g1, g2, rfl⟩ := rng 1 9 (by omega) (by omega) q1 q2
    refine c_addTrack1 hS.1 (fun hT8 F1 s1 f1 => ?_) (fun hT8 => ?_)
    · have ms := MSh_fr f1 (by decide) hS.2.1
      refine eModel_track (m_isIn (fun _ _ => ⟨fun _ => ?_, fun e => absurd e ne10⟩) (fun z => absurd ⟨q1, q2⟩ z))
      obtain ⟨m1, m2, m3, m4, m5, m6, m7⟩ := ms
      rw [m2, l8, nI_eq (by omega) (by omega)]
      refine ⟨fun _ => ⟨(ix1 hT8 (by omega)).1, ?_⟩, fun e => absurd e (by omega)⟩
      rw [(ix1 (n := 8) hT8 (by omega)).2, upS_same, up_ne _ _ _ (by decide), m2, nI_1, nI_pred]
      have f2 : Fr [39, 110] F1 (upS (up F1 39 T (nI g)) 110 (nI (T + 1))) := (Fr.rf.up (by decide)).up (by decide)
      have f := f1.tr f2
      refine ⟨rfl, T + 1, up1 dr T g, pl, mu, lf, P, Y, kd, sz, ow, dd, rh, fm, ou, hc, ca, ho, sl, sv, ⟨CSh_fr f2 (by decide) s1, ⟨by omega, by rw [upS_same], fun t' ht' => ?_, m4, m5, m6, m7⟩, w_track (P := P) (Y := Y) g2 hS.2.2⟩, ?_, RN_fr f (by decide) hN, RT_fr f (by decide) hT⟩
      · rw [upS_ne _ _ (by decide), up_same, upd_i, up1]
        by_cases e : t' = T
        · rw [if_pos e, if_pos e]
        · rw [if_neg e, if_neg e]
          exact m3 t' (by omega)
      · have hc2 := RC_fr f (by decide) hC
        exact ⟨hc2.1, hc2.2.1, w_trackC hc2.2.2⟩
    · have m2 := hS.2.1.2.1
      refine eModel_track (m_isIn (fun _ _ => ⟨fun _ => ?_, fun e => absurd e ne10⟩) (fun z => absurd ⟨q1, q2⟩ z))
      rw [m2, l8, nI_eq (by omega) (by omega)]
      exact ⟨fun e => absurd hT8 e, fun _ => ⟨rfl, T, dr, pl, mu, lf, P, Y, kd, sz, ow, dd, rh, fm, ou, hc, ca, ho, sl, sv, hS, hC, hN, hT⟩⟩
  · refine eModel_track (m_isIn (fun z1 z2 => absurd ⟨z1, z2⟩ q) (fun _ => ⟨fun e => absurd rfl e, fun _ => ?_⟩))
    exact ⟨rfl, T, dr, pl, mu, lf, P, Y, kd, sz, ow, dd, rh, fm, ou, hc, ca, ho, sl, sv, hS, hC, hN, hT⟩
theorem w_put {T : Nat} {dr : Nat → Nat} {pl : Nat → Nat → Option Nat} {mu : Nat → Nat → Bool} {lf : Nat → Option (Nat × Nat)} {t c : Nat} {o : Option Nat} {b : Bool} (ho : ∀ k, o = some k → k ≤ 9) (w : WSh T dr pl mu lf) : WSh T dr (up2 pl t c o) (up2 mu t c (o.isSome && b)) (clr lf t c) := by
  obtain ⟨w1, w2, w3, w4⟩ := w
  refine ⟨w1, fun t' c' k h => ?_, fun t' c' h => ?_, fun c' x y h => ?_⟩
  · rw [up2] at h
    split at h
    · exact ho k h
    · exact w2 t' c' k h
  · rw [up2] at h ⊢
    split at h
    · rename_i e
      rw [if_pos e]
      intro z
      rw [z] at h
      cases h
    · rename_i e
      rw [if_neg e]
      exact w3 t' c' h
  · unfold clr at h
    cases hl : lf c with
    | none => rw [hl] at h; exact w4 c' x y h
    | some q =>
      obtain ⟨a, b'⟩ := q
      rw [hl] at h
      dsimp only at h
      by_cases e : a = t ∨ b' = t
      · rw [if_pos e, up1] at h
        split at h
        · cases h
        · exact w4 c' x y h
      · rw [if_neg e] at h
        exact w4 c' x y h
theorem oN9 {a : Int32} (h : a = gNONE ∨ (0 ≤ a ∧ a ≤ 9)) : ∃ o : Option Nat, (∀ k, o = some k → k ≤ 9) ∧ a = oN o := by
  rcases h with h | ⟨h1, h2⟩
  · exact ⟨none, fun k e => (by cases e), h⟩
  · obtain ⟨g, -, g2, rfl⟩ := rng 0 9 (by omega) (by omega) h1 h2
    exact ⟨some g, fun k e => (by cases e; exact g2), rfl⟩
theorem nN9 {o : Option Nat} (ho : ∀ k, o = some k → k ≤ 9) (h : ¬ oN o = gNONE) : (0 : Int32) ≤ oN o ∧ oN o ≤ 9 := by
  cases o with
  | none => exact absurd rfl h
  | some k =>
    have := ho k rfl
    exact ⟨nI_pos' (by omega), by rw [l9]; exact nI_le this (by omega)⟩
/-- the model's own in, on good arguments -/
theorem m_in1 {Q : Int32 → gF → (Nat → Int64) → Prop} {F : gF} {G : Nat → Int64} {T : Nat} {dr : Nat → Nat} {pl : Nat → Nat → Option Nat} {mu : Nat → Nat → Bool} {lf : Nat → Option (Nat × Nat)} (s : MSh T dr pl mu lf F) (w : WSh T dr pl mu lf) {t c : Nat} (ht : t < T) (hc : c < 30) (o : Option Nat) (ho : ∀ k, o = some k → k ≤ 9) (b : Bool) (h : ∀ F', MSh T dr (up2 pl t c o) (up2 mu t c (o.isSome && b)) (clr lf t c) F' → Fr [40, 41, 42] F F' → Q (oN (pl t c)) F' G) : AMi D (d + 3) nModel_in [.ref 39, .int (nI t), .int (nI c), .int (oN o), .int (bI b)] F G Q := by
  have hT := s.1
  obtain ⟨e1, e2⟩ := jx30 (t := t) (c := c) (by omega) hc
  have hs31 : ∀ k, o = some k → k < 2 ^ 31 := fun k hk => by have := ho k hk; omega
  have b71 : ∀ x3, AWi D (d + 3) nModel_in 71 [(0, .ref 39), (1, .int (nI t)), (2, .int (nI c)), (3, .int x3), (4, .int (bI b)), (5, .int (oM (pl t c)))] [.int (oM o), .int (nI c), .int (nI t), .ref 39] F G Q := by
    intro x3
    refine bModel_in_71 (m_put1 s w ht hc o hs31 b (fun F' s' f' => ?_))
    rw [oM_pos (fun k hk => plS w hk)]
    have h' := h F' s' f'
    cases hp : pl t c with
    | none => rw [hp] at h'; exact ⟨fun e => absurd rfl e, fun _ => h'⟩
    | some k => rw [hp] at h'; exact ⟨fun _ => h', fun e => absurd (by simp) e⟩
  have b31 : AWi D (d + 3) nModel_in 31 [(0, .ref 39), (1, .int (nI t)), (2, .int (nI c)), (3, .int (oN o)), (4, .int (bI b))] [] F G Q := by
    refine bModel_in_31 (m_isIn (fun _ _ => ⟨fun _ => ⟨e1, ?_⟩, fun e => absurd e ne10⟩) (fun z => absurd (by cases b <;> decide) z))
    rw [e2, s.2.2.2.1 t c (by omega) hc, oN_N hs31]
    refine ⟨fun e => ?_, fun e => ?_⟩
    · cases o with
      | none => exact absurd rfl e
      | some k => exact b71 _
    · subst e
      exact b71 _
  refine eModel_in (m_isTrack1 s ht ⟨fun e => absurd e ne10, fun _ => m_isCue1 hc ⟨fun e => absurd e ne10, fun _ => ⟨fun _ => b31, fun e => m_isIn (fun _ _ => ⟨fun e => absurd e ne10, fun _ => b31⟩) (fun z => absurd (nN9 ho e) z)⟩⟩⟩)
theorem st_in {a b c e : Int32} : Step D (d + 4) nDesk_in nModel_in [.int a, .int b, .int c, .int e] := by
  intro F G ⟨T, dr, pl, mu, lf, P, Y, kd, sz, ow, dd, rh, fm, ou, hc, ca, ho, sl, sv, hS, hC, hN, hT⟩
  have same : RI F := ⟨T, dr, pl, mu, lf, P, Y, kd, sz, ow, dd, rh, fm, ou, hc, ca, ho, sl, sv, hS, hC, hN, hT⟩
  have hT8 := hS.1.1
  -- the model refuses
  have bad : (¬ vp_in a T ∨ ¬ vp_in b 30 ∨ ¬ (c = gNONE ∨ (0 ≤ c ∧ c ≤ 9)) ∨ ¬ (0 ≤ e ∧ e ≤ 1)) → AMi D (d + 4) nModel_in [.ref 39, .int a, .int b, .int c, .int e] F G (fun r' F2 _ => (-1000000001 : Int32) = r' ∧ RI F2) := by
    intro hb
    have b31 : (¬ (0 ≤ e ∧ e ≤ 1)) → AWi D (d + 4) nModel_in 31 [(0, .ref 39), (1, .int a), (2, .int b), (3, .int c), (4, .int e)] [] F G (fun r' F2 _ => (-1000000001 : Int32) = r' ∧ RI F2) := fun he => bModel_in_31 (m_isIn (fun z1 z2 => absurd ⟨z1, z2⟩ he) (fun _ => ⟨fun e => absurd rfl e, fun _ => ⟨rfl, same⟩⟩))
    refine eModel_in (m_isTrack hS.2.1 (fun t ht ea => ⟨fun e => absurd e ne10, fun _ => ?_⟩) (fun _ => ⟨fun _ => ⟨rfl, same⟩, fun e => absurd rfl e⟩))
    have hb : (¬ vp_in b 30 ∨ ¬ (c = gNONE ∨ (0 ≤ c ∧ c ≤ 9)) ∨ ¬ (0 ≤ e ∧ e ≤ 1)) := by
      rcases hb with q | q
      · exact absurd (by rw [ea]; exact vp_in_nI ht (by omega)) q
      · exact q
    by_cases h30 : vp_in b 30
    · obtain ⟨j, hj, rfl⟩ := vp_in_of h30 (by omega)
      have hb : (¬ (c = gNONE ∨ (0 ≤ c ∧ c ≤ 9)) ∨ ¬ (0 ≤ e ∧ e ≤ 1)) := hb.resolve_left (fun z => z h30)
      refine m_isCue1 hj ⟨fun e => absurd e ne10, fun _ => ⟨fun ec => b31 (hb.resolve_left (fun z => z (Or.inl ec))), fun ec => m_isIn (fun z1 z2 => ⟨fun e => absurd e ne10, fun _ => b31 (hb.resolve_left (fun z => z (Or.inr ⟨z1, z2⟩)))⟩) (fun _ => ⟨fun _ => ⟨rfl, same⟩, fun e => absurd rfl e⟩)⟩⟩
    · exact m_isCue0 h30 ⟨fun _ => ⟨rfl, same⟩, fun e => absurd rfl e⟩
  have b21 : (c = gNONE ∨ (0 ≤ c ∧ c ≤ 9)) → AWi D (d + 4) nDesk_in 21 [(0, .ref 1), (1, .int a), (2, .int b), (3, .int c), (4, .int e)] [.int 1] F G (fun r F1 G1 => AMi D (d + 4) nModel_in [.ref 39, .int a, .int b, .int c, .int e] F1 G1 (fun r' F2 _ => r = r' ∧ RI F2)) := by
    intro hcc
    obtain ⟨o, ho9, rfl⟩ := oN9 hcc
    refine bDesk_in_21 (c_isTrack hS.1 (fun t ht ea => ⟨fun e => absurd e ne10, fun _ => c_isCue (fun j hj eb => ⟨fun e => absurd e ne10, fun _ => ⟨fun e => absurd e ne10, fun _ => c_isFlag (fun z1 z2 => ⟨fun _ => ?_, fun e => absurd e ne10⟩) (fun z => ⟨fun e => absurd rfl e, fun _ => bad (Or.inr (Or.inr (Or.inr z)))⟩)⟩⟩) (fun z => ⟨fun _ => bad (Or.inr (Or.inl z)), fun e => absurd rfl e⟩)⟩) (fun z => ⟨fun _ => bad (Or.inl z), fun e => absurd rfl e⟩))
    subst ea
    subst eb
    obtain ⟨bb, rfl⟩ := b01 z1 z2
    refine c_placeAt1 hS.1 ht hj (c_put1 hS.1 hS.2.2 ht hj o (fun k hk => by have := ho9 k hk; omega) bb (fun F1 s1 f1 => ?_))
    refine m_in1 (MSh_fr f1 (by decide) hS.2.1) hS.2.2 ht hj o ho9 bb (fun F2 s2 f2 => ⟨rfl, ?_⟩)
    have f := f1.tr f2
    exact ⟨T, dr, _, _, _, P, Y, kd, sz, ow, dd, rh, fm, ou, hc, ca, ho, sl, sv, ⟨CSh_fr f2 (by decide) s1, s2, w_put ho9 hS.2.2⟩, RC_fr f (by decide) hC, RN_fr f (by decide) hN, RT_fr f (by decide) hT⟩
  refine eDesk_in ⟨fun q => bDesk_in_16 (b21 (Or.inl q)), fun q => c_isWithin (fun z1 z2 => ⟨fun e => absurd e ne10, fun _ => bDesk_in_16 (b21 (Or.inr ⟨z1, z2⟩))⟩) (fun z => ⟨fun _ => ?_, fun e => absurd rfl e⟩)⟩
  have hbad := bad (Or.inr (Or.inr (Or.inl (fun y => y.elim q z))))
  exact bDesk_in_21 (c_isTrack hS.1 (fun t ht ea => ⟨fun e => absurd e ne10, fun _ => c_isCue (fun j hj eb => ⟨fun e => absurd e ne10, fun _ => ⟨fun _ => hbad, fun e => absurd rfl e⟩⟩) (fun z => ⟨fun _ => hbad, fun e => absurd rfl e⟩)⟩) (fun z => ⟨fun _ => hbad, fun e => absurd rfl e⟩))
end STEPS1
