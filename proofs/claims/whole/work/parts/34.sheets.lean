/-! SHEETS: what the class's sheets answer; the steps of sheet, mark, copy, lay -/
abbrev rS (s : Nat) : Nat := 35 + 2 * s
abbrev lS (s : Nat) : Nat := 108 + s
theorem two {s : Nat} (hs : s < 2) : s = 0 ∨ s = 1 := by omega
section SHEETS
variable {D : va_G} {d : Nat} {Q : Int32 → gF → (Nat → Int64) → Prop} {Qr : Value → gF → (Nat → Int64) → Prop} {Qv : gF → (Nat → Int64) → Prop} {F : gF} {G : Nat → Int64} {sl : Nat → Option Nat} {sv : Nat → Nat → Int32}
theorem CSt_len (h : CSt sl sv F) {s : Nat} (hs : s < 2) : F (lS s) 0 = oM (sl s) := by
  rcases two hs with rfl | rfl
  · exact h.1
  · exact h.2.1
theorem CSt_row (h : CSt sl sv F) {s n i : Nat} (hs : s < 2) (hn : sl s = some n) (hi : i < n) : F (rS s) i = sv s i := by
  rcases two hs with rfl | rfl
  · exact h.2.2.1 n i hn hi
  · exact h.2.2.2.1 n i hn hi
theorem CSt_fit (h : CSt sl sv F) {s : Nat} (hs : s < 2) (i : Nat) : fits .byte (.int (F (rS s) i)) = true := by
  rcases two hs with rfl | rfl
  · exact h.2.2.2.2.1 i
  · exact h.2.2.2.2.2 i
theorem c_sheetOf {a : Int32} (h1 : ∀ s, s < 2 → a = nI s → Qr (.ref (rS s)) F G) (h0 : ¬ vp_in a 2 → Qr .null F G) : AMr D (d + 2) nDesk_sheetOf [.ref 1, .int a] F G Qr := by
  refine eDesk_sheetOf (c_isWithin (fun q1 q2 => ⟨fun e => absurd e ne10, fun _ => ?_⟩) (fun q => ⟨fun _ => h0 (fun z => q ((in_leK (a := a) 1 1 rfl (by omega)).mpr z)), fun e => absurd rfl e⟩))
  have hv := (in_leK (a := a) 1 1 rfl (by omega)).mp ⟨q1, q2⟩
  obtain ⟨s, hs, rfl⟩ := vp_in_of hv (by omega)
  refine ⟨hv, rS s, ?_, h1 s hs rfl⟩
  rw [nI_clamp (by omega)]
  rcases two hs with rfl | rfl <;> rfl
theorem c_missing (h : CSt sl sv F) (w : WSt sl) {s : Nat} (hs : s < 2) (hq : Q (bI (sl s).isNone) F G) : AMi D (d + 1) nSheet_isMissing [.ref (rS s)] F G Q := by
  have e := CSt_len h hs
  have key : (¬ F (lS s) 0 = -1 → Q 0 F G) ∧ (F (lS s) 0 = -1 → Q 1 F G) := by
    rw [e]
    cases hn : sl s with
    | none => rw [hn] at hq; exact ⟨fun z => absurd rfl z, fun _ => hq⟩
    | some n => rw [hn] at hq; exact ⟨fun _ => hq, fun z => absurd z (nI_neM (by have := w s n hn; omega))⟩
  rcases two hs with rfl | rfl
  · exact eSheet_isMissing_0 key
  · exact eSheet_isMissing_1 key
theorem c_slen (h : CSt sl sv F) {s : Nat} (hs : s < 2) (hq : Q (oM (sl s)) F G) : AMi D (d + 1) nSheet_length [.ref (rS s)] F G Q := by
  have e := CSt_len h hs
  rw [← e] at hq
  rcases two hs with rfl | rfl
  · exact eSheet_length_0 hq
  · exact eSheet_length_1 hq
theorem c_hasRun (h : CSt sl sv F) (w : WSt sl) {s n : Nat} (hs : s < 2) (hn : sl s = some n) {a m : Int32} (h1 : ∀ x k, x + k ≤ n → a = nI x → m = nI k → Q 1 F G) (h0 : ¬ (∃ x k, x + k ≤ n ∧ a = nI x ∧ m = nI k) → Q 0 F G) : AMi D (d + 2) nSheet_hasRun [.ref (rS s), .int a, .int m] F G Q := by
  have e := CSt_len h hs
  have hw := w s n hn
  rw [hn] at e
  have key : AMi D (d + 1) nDesk_isWithin [.int a, .int 0, .int (F (lS s) 0)] F G (fun x1_ F1 G1 => ((x1_ = 0 → Q 0 F1 G1) ∧ (¬ (x1_ = 0) → AMi D (d + 1) nDesk_isWithin [.int m, .int 0, .int ((F1 (lS s) 0) - a)] F1 G1 (fun x2_ F2 G2 => ((x2_ = 0 → Q 0 F2 G2) ∧ (¬ (x2_ = 0) → Q 1 F2 G2)))))) := by
    rw [e, oM_some]
    refine c_isWithin (fun q1 q2 => ⟨fun z => absurd z ne10, fun _ => ?_⟩) (fun q => ⟨fun _ => h0 ?_, fun z => absurd rfl z⟩)
    · obtain ⟨x, -, hx, rfl⟩ := rng 0 n (by omega) (by omega) q1 q2
      rw [e, oM_some, pk_sub hx]
      refine c_isWithin (fun q3 q4 => ⟨fun z => absurd z ne10, fun _ => ?_⟩) (fun q => ⟨fun _ => h0 ?_, fun z => absurd rfl z⟩)
      · obtain ⟨k, -, hk, rfl⟩ := rng 0 (n - x) (by omega) (by omega) q3 q4
        exact h1 x k (by omega) rfl rfl
      · rintro ⟨x', k, hk, e1, rfl⟩
        have := nI_inj (by omega) (by omega) e1
        subst this
        exact q ⟨nI_pos' (by omega), nI_le (by omega) (by omega)⟩
    · rintro ⟨x, k, hk, rfl, _⟩
      exact q ⟨nI_pos' (by omega), nI_le (by omega) (by omega)⟩
  rcases two hs with rfl | rfl
  · exact eSheet_hasRun_0 key
  · exact eSheet_hasRun_1 key
theorem c_hasRun1 (h : CSt sl sv F) (w : WSt sl) {s n : Nat} (hs : s < 2) (hn : sl s = some n) {x k : Nat} (hx : x + k ≤ n) (h1 : Q 1 F G) : AMi D (d + 2) nSheet_hasRun [.ref (rS s), .int (nI x), .int (nI k)] F G Q := c_hasRun h w hs hn (fun _ _ _ _ _ => h1) (fun z => absurd ⟨x, k, hx, rfl, rfl⟩ z)
theorem c_valueAt (h : CSt sl sv F) (w : WSt sl) {s n : Nat} (hs : s < 2) (hn : sl s = some n) {x : Nat} (hx : x < n) (hq : Q (sv s x) F G) : AMi D (d + 3) nSheet_valueAt [.ref (rS s), .int (nI x)] F G Q := by
  have hw := w s n hn
  have hi := ix1 (n := 30) (c := x) (by omega) (by omega)
  have key : AMi D (d + 2) nSheet_hasRun [.ref (rS s), .int (nI x), .int 1] F G (fun x1_ F1 G1 => ((x1_ = 0 → Q 0 F1 G1) ∧ (¬ (x1_ = 0) → vp_in (nI x) 30 ∧ Q (F1 (rS s) (nI x).toNatClampNeg) F1 G1))) := by
    refine c_hasRun1 (k := 1) h w hs hn (by omega) ⟨fun e => absurd e ne10, fun _ => ⟨hi.1, ?_⟩⟩
    rw [hi.2, CSt_row h hs hn hx]
    exact hq
  rcases two hs with rfl | rfl
  · exact eSheet_valueAt_0 key
  · exact eSheet_valueAt_1 key
theorem c_setValue (h : CSt sl sv F) (w : WSt sl) {s n : Nat} (hs : s < 2) (hn : sl s = some n) {x : Nat} (hx : x < n) {v : Int32} (hq : Qv (up F (rS s) x (vp_nar .byte v)) G) : AMv D (d + 3) nSheet_setValue [.ref (rS s), .int (nI x), .int v] F G Qv := by
  have hw := w s n hn
  have hi := ix1 (n := 30) (c := x) (by omega) (by omega)
  have key : AMi D (d + 2) nSheet_hasRun [.ref (rS s), .int (nI x), .int 1] F G (fun x1_ F1 G1 => ((x1_ = 0 → Qv F1 G1) ∧ (¬ (x1_ = 0) → vp_in (nI x) 30 ∧ Qv (up F1 (rS s) ((nI x).toNatClampNeg) (vp_nar .byte v)) G1))) := by
    refine c_hasRun1 (k := 1) h w hs hn (by omega) ⟨fun e => absurd e ne10, fun _ => ⟨hi.1, ?_⟩⟩
    rw [hi.2]
    exact hq
  rcases two hs with rfl | rfl
  · exact eSheet_setValue_0 key
  · exact eSheet_setValue_1 key
theorem c_begin {s n : Nat} (hs : s < 2) (hn : n ≤ 30) (hq : Qv (upA (upS F (lS s) (nI n)) (rS s) (gFl ((upS F (lS s) (nI n)) (rS s)) 0 30)) G) : AMv D (d + 2) nSheet_begin [.ref (rS s), .int (nI n)] F G Qv := by
  have key : AMi D (d + 1) nDesk_isWithin [.int (nI n), .int 0, .int 30] F G (fun x1_ F1 G1 => ((x1_ = 0 → Qv F1 G1) ∧ (¬ (x1_ = 0) → Qv (upA (upS F1 (lS s) (nI n)) (rS s) (gFl ((upS F1 (lS s) (nI n)) (rS s)) 0 30)) G1))) :=
    c_isWithin (fun _ _ => ⟨fun e => absurd e ne10, fun _ => hq⟩) (fun z => absurd ⟨nI_pos' (by omega), by rw [l30]; exact nI_le hn (by omega)⟩ z)
  rcases two hs with rfl | rfl
  · exact eSheet_begin_0 key
  · exact eSheet_begin_1 key
theorem c_take (h : CSt sl sv F) (w : WSt sl) {s u n m : Nat} (hs : s < 2) (hu : u < 2) (hn : sl s = some n) (hm : sl u = some m) {x y k : Nat} (hx : x + k ≤ n) (hy : y + k ≤ m) (hq : Qv (upA F (rS u) (va_cpy (F (rS s)) (F (rS u)) x y k)) G) : AMv D (d + 3) nSheet_take [.ref (rS u), .ref (rS s), .int (nI x), .int (nI y), .int (nI k)] F G Qv := by
  have hw := w s n hn
  have hw2 := w u m hm
  have key : AMi D (d + 2) nSheet_hasRun [.ref (rS s), .int (nI x), .int (nI k)] F G (fun x1_ F1 G1 => ((x1_ = 0 → Qv F1 G1) ∧ (¬ (x1_ = 0) → AMi D (d + 2) nSheet_hasRun [.ref (rS u), .int (nI y), .int (nI k)] F1 G1 (fun x2_ F2 G2 => ((x2_ = 0 → Qv F2 G2) ∧ (¬ (x2_ = 0) → (¬ (nI x : Int32) < 0 ∧ ¬ (nI y : Int32) < 0 ∧ ¬ (nI k : Int32) < 0 ∧ (nI x : Int32).toNatClampNeg + (nI k : Int32).toNatClampNeg ≤ 30 ∧ (nI y : Int32).toNatClampNeg + (nI k : Int32).toNatClampNeg ≤ 30 ∧ (∀ i, i < (nI k : Int32).toNatClampNeg → fits .byte (.int (F2 (rS s) ((nI x : Int32).toNatClampNeg + i))) = true)) ∧ Qv (upA F2 (rS u) (va_cpy (F2 (rS s)) (F2 (rS u)) (nI x : Int32).toNatClampNeg (nI y : Int32).toNatClampNeg (nI k : Int32).toNatClampNeg)) G2)))))) := by
    refine c_hasRun1 h w hs hn hx ⟨fun e => absurd e ne10, fun _ => c_hasRun1 h w hu hm hy ⟨fun e => absurd e ne10, fun _ => ?_⟩⟩
    rw [nI_clamp (by omega), nI_clamp (by omega), nI_clamp (by omega)]
    exact ⟨⟨nI_pos (by omega), nI_pos (by omega), nI_pos (by omega), by omega, by omega, fun i _ => CSt_fit h hs _⟩, hq⟩
  rcases two hs with rfl | rfl <;> rcases two hu with rfl | rfl
  · exact eSheet_take_0_0 key
  · exact eSheet_take_1_0 key
  · exact eSheet_take_0_1 key
  · exact eSheet_take_1_1 key
theorem jx60 {s i : Nat} (hs : s < 2) (hi : i < 30) : vp_in (30 * nI s + nI i) 60 ∧ (30 * nI s + nI i).toNatClampNeg = s * 30 + i := by
  simp only [g_lit, pk_mul, nI_add]
  rw [Nat.mul_comm 30 s]
  exact ⟨vp_in_nI (by omega) (by omega), nI_clamp (by omega)⟩
theorem jx60' {s x i : Nat} (hs : s < 2) (hi : x + i < 30) : vp_in (30 * nI s + nI x + nI i) 60 ∧ (30 * nI s + nI x + nI i).toNatClampNeg = s * 30 + (x + i) := by
  simp only [g_lit, pk_mul, nI_add]
  rw [Nat.mul_comm 30 s]
  exact ⟨vp_in_nI (by omega) (by omega), by rw [nI_clamp (by omega)]; omega⟩
end SHEETS
