section STEPS2
variable {D : va_G} {d : Nat}
theorem MSh_lift {T : Nat} {dr : Nat → Nat} {pl : Nat → Nat → Option Nat} {mu : Nat → Nat → Bool} {lf : Nat → Option (Nat × Nat)} {F : gF} (s : MSh T dr pl mu lf F) {c x y : Nat} : MSh T dr pl mu (up1 lf c (some (x, y))) (up (up F 42 c (nI x)) 43 c (nI y)) := by
  obtain ⟨h1, h2, h3, h4, h5, h6, h7⟩ := s
  refine ⟨h1, h2, h3, h4, h5, fun j hj => ?_, fun j a b hj hl => ?_⟩
  · rw [up_ne _ _ _ (by decide), up_same, upd_i, up1]
    split
    · rfl
    · exact h6 j hj
  · rw [up_same, upd_i, up_ne _ _ _ (by decide)]
    rw [up1] at hl
    split at hl
    · rename_i e
      rw [if_pos e]
      cases hl
      rfl
    · rename_i e
      rw [if_neg e]
      exact h7 j a b hj hl
theorem MSh_noLift {T : Nat} {dr : Nat → Nat} {pl : Nat → Nat → Option Nat} {mu : Nat → Nat → Bool} {lf : Nat → Option (Nat × Nat)} {F : gF} (s : MSh T dr pl mu lf F) {c : Nat} {y : Int32} : MSh T dr pl mu (up1 lf c none) (up (up F 42 c (-1)) 43 c y) := by
  obtain ⟨h1, h2, h3, h4, h5, h6, h7⟩ := s
  refine ⟨h1, h2, h3, h4, h5, fun j hj => ?_, fun j a b hj hl => ?_⟩
  · rw [up_ne _ _ _ (by decide), up_same, upd_i, up1]
    split
    · rfl
    · exact h6 j hj
  · rw [up_same, upd_i, up_ne _ _ _ (by decide)]
    rw [up1] at hl
    split at hl
    · cases hl
    · rename_i e
      rw [if_neg e]
      exact h7 j a b hj hl
theorem w_lift {T : Nat} {dr : Nat → Nat} {pl : Nat → Nat → Option Nat} {mu : Nat → Nat → Bool} {lf : Nat → Option (Nat × Nat)} {c : Nat} {v : Option (Nat × Nat)} (hv : ∀ a b, v = some (a, b) → a < T ∧ b < T ∧ a ≠ b) (w : WSh T dr pl mu lf) : WSh T dr pl mu (up1 lf c v) := by
  obtain ⟨w1, w2, w3, w4⟩ := w
  refine ⟨w1, w2, w3, fun c' a b h => ?_⟩
  rw [up1] at h
  split at h
  · exact hv a b h
  · exact w4 c' a b h
theorem m_lift64 {Q : Int32 → gF → (Nat → Int64) → Prop} {F : gF} {G : Nat → Int64} {T : Nat} {dr : Nat → Nat} {pl : Nat → Nat → Option Nat} {mu : Nat → Nat → Bool} {lf : Nat → Option (Nat × Nat)} (s : MSh T dr pl mu lf F) (w : WSh T dr pl mu lf) {c : Nat} {x y : Int32} (hc : c < 30) (h1 : ¬ x = gNONE → Q (bI (lf c).isSome) (up (up F 42 c x) 43 c y) G) (h0 : x = gNONE → Q (bI (lf c).isSome) (up (up F 42 c (-1)) 43 c y) G) : AWi D (d + 1) nModel_lift 64 [(0, .ref 39), (1, .int (nI c)), (2, .int x), (3, .int y)] [] F G Q := by
  have hi := ix1 (n := 30) hc (by omega)
  have b78 : AWi D (d + 1) nModel_lift 78 [(0, .ref 39), (1, .int (nI c)), (2, .int x), (3, .int y)] [.int (bI (lf c).isSome)] F G Q := by
    refine bModel_lift_78 ?_
    rw [hi.2]
    exact ⟨fun e => ⟨hi.1, hi.1, h1 e⟩, fun e => ⟨hi.1, hi.1, h0 e⟩⟩
  refine bModel_lift_64 ⟨hi.1, ?_⟩
  rw [hi.2, s.2.2.2.2.2.1 c hc, oM_pos (fun k hk => mlfS s w hk)]
  cases hl : lf c with
  | none => rw [hl] at b78; exact ⟨fun e => absurd rfl e, fun _ => b78⟩
  | some q => rw [hl] at b78; exact ⟨fun _ => b78, fun e => absurd (by simp) e⟩
theorem st_lift {a b c : Int32} : Step D (d + 4) nDesk_lift nModel_lift [.int a, .int b, .int c] := by
  intro F G ⟨T, dr, pl, mu, lf, P, Y, kd, sz, ow, dd, rh, fm, ou, hc, ca, ho, sl, sv, hS, hC, hN, hT⟩
  have same : RI F := ⟨T, dr, pl, mu, lf, P, Y, kd, sz, ow, dd, rh, fm, ou, hc, ca, ho, sl, sv, hS, hC, hN, hT⟩
  have hT8 := hS.1.1
  refine eDesk_lift (c_isCue (fun j hj ea => ⟨fun _ => ?_, fun e => absurd e ne10⟩) (fun z => ⟨fun e => absurd rfl e, fun _ => eModel_lift (m_isCue0 z ⟨fun _ => ⟨rfl, same⟩, fun e => absurd rfl e⟩)⟩))
  subst ea
  refine c_hasLift1 hS.1 hS.2.2 hj ?_
  have main : AWi D (d + 4) nDesk_lift 26 [(0, .ref 1), (1, .int (nI j)), (2, .int b), (3, .int c)] [.int (bI (lf j).isSome)] F G (fun r F1 G1 => AMi D (d + 4) nModel_lift [.ref 39, .int (nI j), .int b, .int c] F1 G1 (fun r' F2 _ => r = r' ∧ RI F2)) := by
    refine bDesk_lift_26 ⟨fun hb => ?_, fun hb => ?_⟩
    · refine c_isTrack hS.1 (fun x hx eb => ⟨fun e => absurd e ne10, fun _ => c_isTrack hS.1 (fun y hy ec => ⟨fun e => absurd e ne10, fun _ => ⟨fun hne => ?_, fun he => ?_⟩⟩) (fun z => ⟨fun _ => ?_, fun e => absurd rfl e⟩)⟩) (fun z => ⟨fun _ => ?_, fun e => absurd rfl e⟩)
      · subst eb
        subst ec
        have hxy : x ≠ y := fun z => hne (by rw [z])
        have mno : (inB pl x j = false ∨ inB pl y j = false) → AMi D (d + 4) nModel_lift [.ref 39, .int (nI j), .int (nI x), .int (nI y)] F G (fun r' F2 _ => (-1000000002 : Int32) = r' ∧ RI F2) := by
          intro hno
          refine eModel_lift (m_isCue1 hj ⟨fun e => absurd e ne10, fun _ => ⟨fun e => absurd e hb, fun _ => m_isTrack1 hS.2.1 hx ⟨fun e => absurd e ne10, fun _ => m_isTrack1 hS.2.1 hy ⟨fun e => absurd e ne10, fun _ => ⟨fun _ => bModel_lift_37 ⟨fun e => absurd e hb, fun _ => m_is1 hS.2.1 hS.2.2 hx hj ⟨fun _ => ⟨rfl, same⟩, fun e => m_is1 hS.2.1 hS.2.2 hy hj ⟨fun e2 => ?_, fun _ => ⟨rfl, same⟩⟩⟩⟩, fun e => absurd e hne⟩⟩⟩⟩⟩)
          rw [bI_n0] at e e2
          rcases hno with h | h
          · rw [e] at h; cases h
          · rw [e2] at h; cases h
        refine c_isIn1 hS.1 hS.2.2 hx hj ⟨fun e => mno (Or.inl ((bI_0 _).mp e)), fun e => c_isIn1 hS.1 hS.2.2 hy hj ⟨fun e2 => ?_, fun e2 => mno (Or.inr ((bI_0 _).mp e2))⟩⟩
        refine c_setLift1 hS.1 hj (some (x, y)) (fun F1 s1 f1 => ?_)
        have ms := MSh_fr f1 (by decide) hS.2.1
        refine eModel_lift (m_isCue1 hj ⟨fun e => absurd e ne10, fun _ => ⟨fun e => absurd e hb, fun _ => m_isTrack1 ms hx ⟨fun e => absurd e ne10, fun _ => m_isTrack1 ms hy ⟨fun e => absurd e ne10, fun _ => ⟨fun _ => bModel_lift_37 ⟨fun e => absurd e hb, fun _ => m_is1 ms hS.2.2 hx hj ⟨fun e3 => absurd ((bI_0 _).mp e3) (by rw [(bI_n0 _).mp e]; decide), fun _ => m_is1 ms hS.2.2 hy hj ⟨fun _ => ?_, fun e3 => absurd ((bI_0 _).mp e3) (by rw [(bI_n0 _).mp e2]; decide)⟩⟩⟩, fun e => absurd e hne⟩⟩⟩⟩⟩)
        refine m_lift64 ms hS.2.2 hj (fun _ => ⟨rfl, ?_⟩) (fun e => absurd e hb)
        have f2 : Fr [42, 43] F1 (up (up F1 42 j (nI x)) 43 j (nI y)) := (Fr.rf.up (by decide)).up (by decide)
        have f := f1.tr f2
        exact ⟨T, dr, pl, mu, _, P, Y, kd, sz, ow, dd, rh, fm, ou, hc, ca, ho, sl, sv, ⟨CSh_fr f2 (by decide) s1, MSh_lift ms, w_lift (fun p q e => by cases e; exact ⟨hx, hy, hxy⟩) hS.2.2⟩, RC_fr f (by decide) hC, RN_fr f (by decide) hN, RT_fr f (by decide) hT⟩
      · subst eb
        subst ec
        exact eModel_lift (m_isCue1 hj ⟨fun e => absurd e ne10, fun _ => ⟨fun e => absurd e hb, fun _ => m_isTrack1 hS.2.1 hx ⟨fun e => absurd e ne10, fun _ => m_isTrack1 hS.2.1 hy ⟨fun e => absurd e ne10, fun _ => ⟨fun e => absurd he e, fun _ => ⟨rfl, same⟩⟩⟩⟩⟩⟩)
      · subst eb
        exact eModel_lift (m_isCue1 hj ⟨fun e => absurd e ne10, fun _ => ⟨fun e => absurd e hb, fun _ => m_isTrack1 hS.2.1 hx ⟨fun e => absurd e ne10, fun _ => m_isTrack0 hS.2.1 z ⟨fun _ => ⟨rfl, same⟩, fun e => absurd rfl e⟩⟩⟩⟩)
      · exact eModel_lift (m_isCue1 hj ⟨fun e => absurd e ne10, fun _ => ⟨fun e => absurd e hb, fun _ => m_isTrack0 hS.2.1 z ⟨fun _ => ⟨rfl, same⟩, fun e => absurd rfl e⟩⟩⟩)
    · refine c_setLift1 hS.1 hj none (fun F1 s1 f1 => ?_)
      have ms := MSh_fr f1 (by decide) hS.2.1
      refine eModel_lift (m_isCue1 hj ⟨fun e => absurd e ne10, fun _ => ⟨fun _ => bModel_lift_37 ⟨fun _ => ?_, fun e => absurd hb e⟩, fun e => absurd hb e⟩⟩)
      refine m_lift64 ms hS.2.2 hj (fun e => absurd hb e) (fun _ => ⟨rfl, ?_⟩)
      have f2 : Fr [42, 43] F1 (up (up F1 42 j (-1)) 43 j c) := (Fr.rf.up (by decide)).up (by decide)
      have f := f1.tr f2
      exact ⟨T, dr, pl, mu, _, P, Y, kd, sz, ow, dd, rh, fm, ou, hc, ca, ho, sl, sv, ⟨CSh_fr f2 (by decide) s1, MSh_noLift ms, w_lift (fun p q e => by cases e) hS.2.2⟩, RC_fr f (by decide) hC, RN_fr f (by decide) hN, RT_fr f (by decide) hT⟩
  cases hl : lf j with
  | none => rw [hl] at main; exact ⟨fun _ => main, fun e => absurd rfl e⟩
  | some q => rw [hl] at main; exact ⟨fun e => absurd e ne10, fun _ => main⟩
theorem st_told {a b c : Int32} : Step D (d + 4) nDesk_told nModel_told [.int a, .int b, .int c] := by
  intro F G ⟨T, dr, pl, mu, lf, P, Y, kd, sz, ow, dd, rh, fm, ou, hc, ca, ho, sl, sv, hS, hC, hN, hT⟩
  have same : RI F := ⟨T, dr, pl, mu, lf, P, Y, kd, sz, ow, dd, rh, fm, ou, hc, ca, ho, sl, sv, hS, hC, hN, hT⟩
  have hT8 := hS.1.1
  have bad : (¬ vp_in a T ∨ ¬ vp_in b 30 ∨ (¬ c = 0 ∧ ¬ c = 1 ∧ ¬ c = 2)) → AMi D (d + 4) nModel_told [.ref 39, .int a, .int b, .int c] F G (fun r' F2 _ => (-1000000001 : Int32) = r' ∧ RI F2) := by
    intro hb
    refine eModel_told (m_isTrack hS.2.1 (fun t ht ea => ⟨fun e => absurd e ne10, fun _ => ?_⟩) (fun _ => ⟨fun _ => ⟨rfl, same⟩, fun e => absurd rfl e⟩))
    by_cases h30 : vp_in b 30
    · obtain ⟨j, hj, rfl⟩ := vp_in_of h30 (by omega)
      refine m_isCue1 hj ⟨fun e => absurd e ne10, fun _ => m_isIn (fun z1 z2 => ?_) (fun _ => ⟨fun e => absurd rfl e, fun _ => ⟨rfl, same⟩⟩)⟩
      obtain ⟨g, -, g2, rfl⟩ := rng 0 2 (by omega) (by omega) z1 z2
      rcases hb with q | q | q
      · exact absurd (by rw [ea]; exact vp_in_nI ht (by omega)) q
      · exact absurd h30 q
      · rcases (show g = 0 ∨ g = 1 ∨ g = 2 by omega) with rfl | rfl | rfl
        · exact absurd rfl q.1
        · exact absurd rfl q.2.1
        · exact absurd rfl q.2.2
    · exact m_isCue0 h30 ⟨fun _ => ⟨rfl, same⟩, fun e => absurd rfl e⟩
  refine eDesk_told (c_isTrack hS.1 (fun t ht ea => ⟨fun e => absurd e ne10, fun _ => c_isCue (fun j hj eb => ⟨fun _ => ⟨fun ec => ?_, fun ec => ?_, fun ec => ?_, fun z => bad (Or.inr (Or.inr z))⟩, fun e => absurd e ne10⟩) (fun z => ⟨fun e => absurd rfl e, fun _ => bad (Or.inr (Or.inl z))⟩)⟩) (fun z => ⟨fun _ => bad (Or.inl z), fun e => absurd rfl e⟩))
  · subst ea; subst eb; subst ec
    obtain ⟨e1, e2⟩ := jx30 (t := t) (c := j) (by omega) hj
    refine c_placeAt1 hS.1 ht hj (eModel_told (m_isTrack1 hS.2.1 ht ⟨fun e => absurd e ne10, fun _ => m_isCue1 hj ⟨fun e => absurd e ne10, fun _ => m_isIn (fun _ _ => ⟨fun _ => ⟨fun e => absurd rfl e, fun _ => m_is1 hS.2.1 hS.2.2 ht hj ⟨fun e => ?_, fun e => ⟨e1, ?_⟩⟩⟩, fun e => absurd e ne10⟩) (fun z => absurd (by decide) z)⟩⟩))
    · rw [bI_0] at e
      unfold inB at e
      cases hp : pl t j with
      | none => exact ⟨rfl, same⟩
      | some k => rw [hp] at e; cases e
    · rw [bI_n0] at e
      unfold inB at e
      rw [e2, hS.2.1.2.2.2.1 t j (by omega) hj]
      cases hp : pl t j with
      | none => rw [hp] at e; cases e
      | some k => exact ⟨rfl, same⟩
  · subst ea; subst eb; subst ec
    obtain ⟨e1, e2⟩ := jx30 (t := t) (c := j) (by omega) hj
    refine c_mustAt1 hS.1 ht hj (eModel_told (m_isTrack1 hS.2.1 ht ⟨fun e => absurd e ne10, fun _ => m_isCue1 hj ⟨fun e => absurd e ne10, fun _ => m_isIn (fun _ _ => ⟨fun _ => ⟨fun _ => ⟨fun e => absurd rfl e, fun _ => ⟨e1, ?_⟩⟩, fun e => absurd e (by decide)⟩, fun e => absurd e ne10⟩) (fun z => absurd (by decide) z)⟩⟩))
    rw [e2, hS.2.1.2.2.2.2.1 t j (by omega) hj]
    exact ⟨rfl, same⟩
  · subst ea; subst eb; subst ec
    have hi := ix1 (n := 30) hj (by omega)
    refine c_liftPartner1 hS.1 hS.2.2 ht hj (eModel_told (m_isTrack1 hS.2.1 ht ⟨fun e => absurd e ne10, fun _ => m_isCue1 hj ⟨fun e => absurd e ne10, fun _ => m_isIn (fun _ _ => ⟨fun _ => ⟨fun _ => ⟨fun _ => ⟨hi.1, ?_⟩, fun e => absurd e (by decide)⟩, fun e => absurd e (by decide)⟩, fun e => absurd e ne10⟩) (fun z => absurd (by decide) z)⟩⟩))
    rw [hi.2, hS.2.1.2.2.2.2.2.1 j hj, oM_pos (fun k hk => mlfS hS.2.1 hS.2.2 hk)]
    unfold partner
    cases hl : lf j with
    | none => exact ⟨fun e => absurd rfl e, fun _ => ⟨rfl, same⟩⟩
    | some q =>
      obtain ⟨x, y⟩ := q
      have hxy := hS.2.2.2.2.2 j x y hl
      rw [hS.2.1.2.2.2.2.2.2 j x y hj hl]
      refine ⟨fun _ => ⟨hi.1, ?_⟩, fun e => absurd (by simp) e⟩
      show ((¬ nI x = nI t → _) ∧ (nI x = nI t → _))
      rw [nI_eq (by omega) (by omega), nI_eq (by omega) (by omega)]
      dsimp only
      refine ⟨fun e => ⟨hi.1, fun e2 => ?_, fun e2 => ⟨hi.1, ?_⟩⟩, fun e => ⟨hi.1, ?_⟩⟩
      · rw [if_neg e, if_neg e2]; exact ⟨rfl, same⟩
      · rw [if_neg e, if_pos e2]; exact ⟨rfl, same⟩
      · rw [if_pos e]; exact ⟨rfl, same⟩
end STEPS2
