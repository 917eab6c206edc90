section STEPS5
variable {D : va_G} {d : Nat} {Q : Int32 → gF → (Nat → Int64) → Prop} {F : gF} {G : Nat → Int64} {sl : Nat → Option Nat} {sv : Nat → Nat → Int32}
theorem CSt_mk (h1 : ∀ s, s < 2 → F (lS s) 0 = oM (sl s)) (h2 : ∀ s n i, s < 2 → sl s = some n → i < n → F (rS s) i = sv s i) (h3 : ∀ s i, s < 2 → fits .byte (.int (F (rS s) i)) = true) : CSt sl sv F :=
  ⟨h1 0 (by omega), h1 1 (by omega), fun n i => h2 0 n i (by omega), fun n i => h2 1 n i (by omega), fun i => h3 0 i (by omega), fun i => h3 1 i (by omega)⟩
theorem rr {u s : Nat} (e : u = s) : rS u = rS s := by rw [e]
theorem rrn {u s : Nat} (e : ¬ u = s) : ¬ rS u = rS s := by unfold rS; omega
theorem ll {u s : Nat} (e : u = s) : lS u = lS s := by rw [e]
theorem lln {u s : Nat} (e : ¬ u = s) : ¬ lS u = lS s := by unfold lS; omega
theorem lrn {u s : Nat} (hs : s < 2) : ¬ lS u = rS s := by unfold lS rS; omega
theorem rln {u s : Nat} (hu : u < 2) : ¬ rS u = lS s := by unfold lS rS; omega
theorem up_i (F : gF) (k x : Nat) (v : Int32) (j i : Nat) : up F k x v j i = if j = k then (if i = x then v else F k i) else F j i := upA_i F k _ j i
theorem upS_i (F : gF) (k : Nat) (v : Int32) (j i : Nat) : upS F k v j i = if j = k then v else F j i := upA_i F k _ j i
theorem nref {a b : Nat} (h : a ≠ b) (e : Value.ref a = Value.ref b) : False := by
  injection e with e
  exact h e
theorem rS_mem {s : Nat} (hs : s < 2) : rS s ∈ [35, 37, 108, 109] := by
  rcases two hs with rfl | rfl <;> decide
theorem lS_mem {s : Nat} (hs : s < 2) : lS s ∈ [35, 37, 108, 109] := by
  rcases two hs with rfl | rfl <;> decide
theorem m_sheet32 {s n : Nat} (hs : s < 2) (hn : n ≤ 30) (h : ∀ F', Fr [54] F F' → (∀ j, j < n → F' 54 (s * 30 + j) = 0) → (∀ u j, u < 2 → u ≠ s → j < 30 → F' 54 (u * 30 + j) = F 54 (u * 30 + j)) → Q (nI n) F' G) : AWi D (d + 1) nModel_sheet 32 [(0, .ref 39), (1, .int (nI s)), (2, .int (nI n)), (3, .int 0)] [] F G Q := by
  have key : ∀ k i F', i + k = n → Fr [54] F F' → (∀ j, j < i → F' 54 (s * 30 + j) = 0) → (∀ u j, u < 2 → u ≠ s → j < 30 → F' 54 (u * 30 + j) = F 54 (u * 30 + j)) → AWi D (d + 1) nModel_sheet 32 [(0, .ref 39), (1, .int (nI s)), (2, .int (nI n)), (3, .int (nI i))] [] F' G Q := by
    intro k
    induction k with
    | zero =>
      intro i F' hi f1 f2 f3
      refine bModel_sheet_32 ?_
      rw [nI_leI (by omega) (by omega)]
      refine ⟨fun _ => h F' f1 (fun j hj => f2 j (by omega)) f3, fun e => absurd (by omega) e⟩
    | succ k ih =>
      intro i F' hi f1 f2 f3
      have hx := jx60 (s := s) (i := i) hs (by omega)
      refine bModel_sheet_32 ?_
      rw [nI_leI (by omega) (by omega), nI_1]
      refine ⟨fun e => absurd e (by omega), fun _ => ⟨hx.1, ?_⟩⟩
      rw [hx.2]
      refine ih (i + 1) _ (by omega) (f1.up (by decide)) (fun j hj => ?_) (fun u j hu hne hj => ?_)
      · rw [up_same, upd_i]
        by_cases e : j = i
        · rw [if_pos (by omega)]
        · rw [if_neg (by omega)]; exact f2 j (by omega)
      · rw [up_same, upd_i, if_neg (by omega)]
        exact f3 u j hu hne hj
  exact key n 0 F (by omega) Fr.rf (fun j hj => absurd hj (by omega)) (fun _ _ _ _ _ => rfl)
theorem st_sheet {a b : Int32} : Step D (d + 4) nDesk_sheet nModel_sheet [.int a, .int b] := by
  intro F G ⟨T, dr, pl, mu, lf, P, Y, kd, sz, ow, dd, rh, fm, ou, hc, ca, ho, sl, sv, hS, hC, hN, hT⟩
  have same : RI F := ⟨T, dr, pl, mu, lf, P, Y, kd, sz, ow, dd, rh, fm, ou, hc, ca, ho, sl, sv, hS, hC, hN, hT⟩
  have main : ∀ s, s < 2 → a = nI s → ((b ≤ 30 → ((0 ≤ b → AMv D (d + 3) nSheet_begin [.ref (rS s), .int b] F G (fun F2 G2 => AMi D (d + 4) nModel_sheet [.ref 39, .int a, .int b] F2 G2 (fun r' F2 _ => b = r' ∧ RI F2))) ∧ (¬ (0 ≤ b) → AMi D (d + 4) nModel_sheet [.ref 39, .int a, .int b] F G (fun r' F2 _ => (-1000000014 : Int32) = r' ∧ RI F2)))) ∧ (¬ (b ≤ 30) → AMi D (d + 4) nModel_sheet [.ref 39, .int a, .int b] F G (fun r' F2 _ => (-1000000001 : Int32) = r' ∧ RI F2))) := by
    intro s hs ea
    subst ea
    refine ⟨fun q => ⟨fun q2 => ?_, fun q2 => eModel_sheet (m_isSheet1 hs ⟨fun e => absurd e ne10, fun _ => ⟨fun _ => ⟨fun e => absurd e q2, fun _ => ⟨rfl, same⟩⟩, fun e => absurd q e⟩⟩)⟩, fun q => eModel_sheet (m_isSheet1 hs ⟨fun e => absurd e ne10, fun _ => ⟨fun e => absurd e q, fun _ => ⟨rfl, same⟩⟩⟩)⟩
    obtain ⟨n, -, hn, rfl⟩ := rng 0 30 (by omega) (by omega) q2 q
    refine c_begin hs hn ?_
    have hF1 : CSt (up1 sl s (some n)) (fun u i => if u = s then 0 else sv u i) (upA (upS F (lS s) (nI n)) (rS s) (gFl ((upS F (lS s) (nI n)) (rS s)) 0 30)) := by
      refine CSt_mk (fun u hu => ?_) (fun u m i hu hm hi => ?_) (fun u i hu => ?_)
      · rw [upA_i, if_neg (lrn hs), upS_i, up1]
        by_cases e : u = s
        · rw [if_pos (ll e), if_pos e, oM_some]
        · rw [if_neg (lln e), if_neg e, CSt_len hT.1 hu]
      · rw [upA_i]
        rw [up1] at hm
        by_cases e : u = s
        · rw [if_pos e] at hm
          cases hm
          rw [if_pos (rr e), if_pos e, gFl, if_pos (by omega)]
        · rw [if_neg e] at hm
          rw [if_neg (rrn e), if_neg e, upS_i, if_neg (rln hu)]
          exact CSt_row hT.1 hu hm hi
      · rw [upA_i]
        by_cases e : u = s
        · rw [if_pos (rr e), gFl]
          split
          · rfl
          · rw [upS_i, if_neg (rln hs)]
            exact CSt_fit hT.1 hs i
        · rw [if_neg (rrn e), upS_i, if_neg (rln hu)]
          exact CSt_fit hT.1 hu i
    have f1 : Fr [35, 37, 108, 109] F (upA (upS F (lS s) (nI n)) (rS s) (gFl ((upS F (lS s) (nI n)) (rS s)) 0 30)) := (Fr.rf.up (lS_mem hs)).up (rS_mem hs)
    generalize (upA (upS F (lS s) (nI n)) (rS s) (gFl ((upS F (lS s) (nI n)) (rS s)) 0 30)) = F1 at hF1 f1 ⊢
    have ms := MSt_fr f1 (by decide) hT.2.1
    have hi2 := ix1 (n := 2) (c := s) hs (by omega)
    refine eModel_sheet (m_isSheet1 hs ⟨fun e => absurd e ne10, fun _ => ⟨fun _ => ⟨fun _ => ⟨hi2.1, ?_⟩, fun e => absurd q2 e⟩, fun e => absurd q e⟩⟩)
    rw [hi2.2]
    refine m_sheet32 hs hn (fun F2 g1 g2 g3 => ⟨rfl, ?_⟩)
    have f2 : Fr [53, 54] F1 F2 := ((Fr.rf.up (by decide) : Fr [53] F1 (up F1 53 s (nI n))).tr g1).sub (by decide)
    have f := f1.tr f2
    refine ⟨T, dr, pl, mu, lf, P, Y, kd, sz, ow, dd, rh, fm, ou, hc, ca, ho, _, _, RS_fr f (by decide) hS, RC_fr f (by decide) hC, RN_fr f (by decide) hN, CSt_fr f2 (by decide) hF1, ⟨fun u hu => ?_, fun u m i hu hm hi => ?_⟩, fun u m hm => ?_⟩
    · rw [g1 53 (by decide), up_same, upd_i, up1]
      by_cases e : u = s
      · rw [if_pos e, if_pos e, oM_some]
      · rw [if_neg e, if_neg e]
        exact ms.1 u hu
    · rw [up1] at hm
      by_cases e : u = s
      · rw [if_pos e] at hm
        cases hm
        dsimp only
        rw [if_pos e, e]
        exact g2 i hi
      · rw [if_neg e] at hm
        dsimp only
        rw [if_neg e, g3 u i hu e (by have := hT.2.2 u m hm; omega), up_ne _ _ _ (by decide)]
        exact ms.2 u m i hu hm hi
    · rw [up1] at hm
      split at hm
      · cases hm; exact hn
      · exact hT.2.2 u m hm
  refine eDesk_sheet (c_sheetOf (fun s hs ea => ?_) (fun z => ⟨Or.inl rfl, fun _ => eModel_sheet (m_isSheet0 z ⟨fun _ => ⟨rfl, same⟩, fun e => absurd rfl e⟩), fun e => (by cases e), fun e => (by cases e)⟩))
  have hm := main s hs ea
  rcases two hs with rfl | rfl
  · exact ⟨Or.inr (Or.inl rfl), fun e => (by cases e), fun _ => hm, fun e => (nref (by decide) e).elim⟩
  · exact ⟨Or.inr (Or.inr rfl), fun e => (by cases e), fun e => (nref (by decide) e).elim, fun _ => hm⟩
theorem st_mark {a b c : Int32} : Step D (d + 5) nDesk_mark nModel_mark [.int a, .int b, .int c] := by
  intro F G ⟨T, dr, pl, mu, lf, P, Y, kd, sz, ow, dd, rh, fm, ou, hc, ca, ho, sl, sv, hS, hC, hN, hT⟩
  have same : RI F := ⟨T, dr, pl, mu, lf, P, Y, kd, sz, ow, dd, rh, fm, ou, hc, ca, ho, sl, sv, hS, hC, hN, hT⟩
  have main : ∀ s, s < 2 → a = nI s → AMi D (d + 4) nSheet_isMissing [.ref (rS s)] F G (fun x2_ F2 G2 => ((x2_ = 0 → AMi D (d + 4) nSheet_hasRun [.ref (rS s), .int b, .int 1] F2 G2 (fun x3_ F3 G3 => ((¬ x3_ = 0 → AMi D (d + 4) nSheet_valueAt [.ref (rS s), .int b] F3 G3 (fun x4_ F4 G4 => AMv D (d + 4) nSheet_setValue [.ref (rS s), .int b, .int (c.toInt8.toInt32)] F4 G4 (fun F5 G5 => AMi D (d + 5) nModel_mark [.ref 39, .int a, .int b, .int c] F5 G5 (fun r' F2 _ => x4_ = r' ∧ RI F2)))) ∧ (x3_ = 0 → AMi D (d + 5) nModel_mark [.ref 39, .int a, .int b, .int c] F3 G3 (fun r' F2 _ => (-1000000013 : Int32) = r' ∧ RI F2))))) ∧ (¬ (x2_ = 0) → AMi D (d + 5) nModel_mark [.ref 39, .int a, .int b, .int c] F2 G2 (fun r' F2 _ => (-1000000011 : Int32) = r' ∧ RI F2)))) := by
    intro s hs ea
    subst ea
    have hi2 := ix1 (n := 2) (c := s) hs (by omega)
    have h53 := hT.2.1.1 s hs
    refine c_missing hT.1 hT.2.2 hs ?_
    cases hn : sl s with
    | none =>
      refine ⟨fun e => absurd e ne10, fun _ => eModel_mark (m_isSheet1 hs ⟨fun _ => ⟨hi2.1, ?_⟩, fun e => absurd e ne10⟩)⟩
      rw [hi2.2, h53, hn]
      exact ⟨fun e => absurd e (by decide), fun _ => ⟨rfl, same⟩⟩
    | some n =>
      have hw := hT.2.2 s n hn
      rw [hn, oM_some] at h53
      refine ⟨fun _ => c_hasRun hT.1 hT.2.2 hs hn (fun x k hx e1 e2 => ⟨fun _ => ?_, fun e => absurd e ne10⟩) (fun z => ⟨fun e => absurd rfl e, fun _ => eModel_mark (m_isSheet1 hs ⟨fun _ => ⟨hi2.1, ?_⟩, fun e => absurd e ne10⟩)⟩), fun e => absurd rfl e⟩
      · subst e1
        have hk : k = 1 := (nI_inj (by omega) (by omega) e2.symm)
        subst hk
        have hx1 : x < n := by omega
        refine c_valueAt hT.1 hT.2.2 hs hn hx1 (c_setValue hT.1 hT.2.2 hs hn hx1 ?_)
        have f1 : Fr [35, 37, 108, 109] F (up F (rS s) x (vp_nar .byte c.toInt8.toInt32)) := Fr.rf.up (rS_mem hs)
        have ev : vp_nar .byte c.toInt8.toInt32 = c.toInt8.toInt32 := by rw [vp_nar_byte]; simp
        have hF1 : CSt sl (fun u i => if u = s ∧ i = x then c.toInt8.toInt32 else sv u i) (up F (rS s) x (vp_nar .byte c.toInt8.toInt32)) := by
          rw [ev]
          refine CSt_mk (fun u hu => ?_) (fun u m i hu hm hi => ?_) (fun u i hu => ?_)
          · rw [up_i, if_neg (lrn hs)]
            exact CSt_len hT.1 hu
          · rw [up_i]
            by_cases e : u = s
            · rw [if_pos (rr e)]
              by_cases e2 : i = x
              · rw [if_pos e2, if_pos ⟨e, e2⟩]
              · rw [if_neg e2, if_neg (fun z => e2 z.2), ← e]
                exact CSt_row hT.1 hu hm hi
            · rw [if_neg (rrn e), if_neg (fun z => e z.1)]
              exact CSt_row hT.1 hu hm hi
          · rw [up_i]
            by_cases e : u = s
            · rw [if_pos (rr e)]
              split
              · exact pk_fb c
              · exact CSt_fit hT.1 hs i
            · rw [if_neg (rrn e)]
              exact CSt_fit hT.1 hu i
        generalize (up F (rS s) x (vp_nar .byte c.toInt8.toInt32)) = F1 at hF1 f1 ⊢
        have ms := MSt_fr f1 (by decide) hT.2.1
        have h53' := ms.1 s hs
        have hj := jx60 (s := s) (i := x) hs (by omega)
        refine eModel_mark (m_isSheet1 hs ⟨fun _ => ⟨hi2.1, ?_⟩, fun e => absurd e ne10⟩)
        rw [hi2.2, h53', hn, oM_some]
        refine ⟨fun _ => ⟨hi2.1, m_isIn (fun _ _ => ⟨fun _ => ⟨hj.1, hj.1, ?_⟩, fun e => absurd e ne10⟩) (fun z => absurd ((in_le (by omega)).mpr (vp_in_nI hx1 (by omega))) z)⟩, fun e => absurd (nI_pos' (by omega)) e⟩
        rw [hj.2, ms.2 s n x hs hn hx1]
        have f2 : Fr [54] F1 (up F1 54 (s * 30 + x) c.toInt8.toInt32) := Fr.rf.up (by decide)
        have f := f1.tr f2
        refine ⟨rfl, T, dr, pl, mu, lf, P, Y, kd, sz, ow, dd, rh, fm, ou, hc, ca, ho, _, _, RS_fr f (by decide) hS, RC_fr f (by decide) hC, RN_fr f (by decide) hN, CSt_fr f2 (by decide) hF1, ⟨fun u hu => ?_, fun u m i hu hm hi => ?_⟩, hT.2.2⟩
        · rw [up_ne _ _ _ (by decide)]
          exact ms.1 u hu
        · have hw2 := hT.2.2 u m hm
          rw [up_same, upd_i]
          dsimp only
          by_cases e : u = s ∧ i = x
          · rw [if_pos (by omega), if_pos e]
          · rw [if_neg (by omega), if_neg e]
            exact ms.2 u m i hu hm hi
      · rw [hi2.2, h53]
        refine ⟨fun _ => ⟨hi2.1, m_isIn (fun z1 z2 => absurd ((in_le (by omega)).mp ⟨z1, z2⟩) (fun y => z ?_)) (fun _ => ⟨fun e => absurd rfl e, fun _ => ⟨rfl, same⟩⟩)⟩, fun e => absurd (nI_pos' (by omega)) e⟩
        obtain ⟨x, hx, e⟩ := vp_in_of y (by omega)
        exact ⟨x, 1, by omega, e, rfl⟩
  refine eDesk_mark (c_sheetOf (fun s hs ea => ?_) (fun z => ⟨Or.inl rfl, fun _ => eModel_mark (m_isSheet0 z ⟨fun e => absurd rfl e, fun _ => ⟨rfl, same⟩⟩), fun e => (by cases e), fun e => (by cases e)⟩))
  have hm := main s hs ea
  rcases two hs with rfl | rfl
  · exact ⟨Or.inr (Or.inl rfl), fun e => (by cases e), fun _ => hm, fun e => (nref (by decide) e).elim⟩
  · exact ⟨Or.inr (Or.inr rfl), fun e => (by cases e), fun e => (nref (by decide) e).elim, fun _ => hm⟩
end STEPS5
