/-! numbers, and the answers' codes -/
abbrev gNONE : Int32 := -1000000005
def bI (b : Bool) : Int32 := if b then 1 else 0
theorem bI_t : bI true = 1 := rfl
theorem bI_f : bI false = 0 := rfl
theorem bI_0 (b : Bool) : bI b = 0 ↔ b = false := by cases b <;> decide
theorem bI_n0 (b : Bool) : ¬ bI b = 0 ↔ b = true := by cases b <;> decide
theorem bI_nar (b : Bool) : narrow .boolean (.int (bI b)) = .int (bI b) := by cases b <;> decide
def oN (o : Option Nat) : Int32 := match o with
  | none => gNONE
  | some k => nI k
def oM (o : Option Nat) : Int32 := match o with
  | none => -1
  | some k => nI k
theorem g_lit (n : Nat) : (OfNat.ofNat n : Int32) = nI n := rfl
theorem l1 : (1 : Int32) = nI 1 := rfl
theorem l2 : (2 : Int32) = nI 2 := rfl
theorem l3 : (3 : Int32) = nI 3 := rfl
theorem l4 : (4 : Int32) = nI 4 := rfl
theorem l5 : (5 : Int32) = nI 5 := rfl
theorem l6 : (6 : Int32) = nI 6 := rfl
theorem l8 : (8 : Int32) = nI 8 := rfl
theorem l9 : (9 : Int32) = nI 9 := rfl
theorem l10 : (10 : Int32) = nI 10 := rfl
theorem l20 : (20 : Int32) = nI 20 := rfl
theorem l29 : (29 : Int32) = nI 29 := rfl
theorem l30 : (30 : Int32) = nI 30 := rfl
theorem l60 : (60 : Int32) = nI 60 := rfl
theorem l400 : (400 : Int32) = nI 400 := rfl
theorem l576 : (576 : Int32) = nI 576 := rfl
theorem l6561 : (6561 : Int32) = nI 6561 := rfl
theorem ne10 : ¬ (1 : Int32) = 0 := by decide
theorem oN_some (k : Nat) : oN (some k) = nI k := rfl
theorem oM_some (k : Nat) : oM (some k) = nI k := rfl
theorem nI_inj {a b : Nat} (ha : a < 2 ^ 31) (hb : b < 2 ^ 31) (h : nI a = nI b) : a = b := (nI_eq ha hb).mp h
theorem nI_neN {a : Nat} (ha : a < 2 ^ 31) : ¬ nI a = gNONE := by
  intro h
  have h1 := nI_toInt ha
  rw [h, show (gNONE : Int32).toInt = -1000000005 from by decide] at h1
  omega
theorem nI_neM {a : Nat} (ha : a < 2 ^ 31) : ¬ nI a = -1 := by
  intro h
  have h1 := nI_toInt ha
  rw [h, show (-1 : Int32).toInt = -1 from by decide] at h1
  omega
theorem oN_N {o : Option Nat} (h : ∀ k, o = some k → k < 2 ^ 31) : oN o = gNONE ↔ o = none := by
  cases o with
  | none => exact ⟨fun _ => rfl, fun _ => rfl⟩
  | some k => exact ⟨fun e => absurd e (nI_neN (h k rfl)), fun e => by cases e⟩
theorem oM_neg {o : Option Nat} (h : ∀ k, o = some k → k < 2 ^ 31) : oM o < 0 ↔ o = none := by
  cases o with
  | none => exact ⟨fun _ => rfl, fun _ => by decide⟩
  | some k => exact ⟨fun e => absurd e (nI_pos (h k rfl)), fun e => by cases e⟩
theorem oM_pos {o : Option Nat} (h : ∀ k, o = some k → k < 2 ^ 31) : 0 ≤ oM o ↔ ¬ o = none := by
  cases o with
  | none => exact ⟨fun e => absurd e (by decide), fun e => absurd rfl e⟩
  | some k => exact ⟨fun _ e => by (cases e), fun _ => nI_pos' (h k rfl)⟩
theorem oN_eq {o : Option Nat} {t : Nat} (ht : t < 2 ^ 31) (h : ∀ k, o = some k → k < 2 ^ 31) : oN o = nI t ↔ o = some t := by
  cases o with
  | none => exact ⟨fun e => absurd e.symm (nI_neN ht), fun e => by cases e⟩
  | some k => exact ⟨fun e => by rw [nI_inj (h k rfl) ht e], fun e => by cases e; rfl⟩
theorem oM_eq {o : Option Nat} {t : Nat} (ht : t < 2 ^ 31) (h : ∀ k, o = some k → k < 2 ^ 31) : oM o = nI t ↔ o = some t := by
  cases o with
  | none => exact ⟨fun e => absurd e.symm (nI_neM ht), fun e => by cases e⟩
  | some k => exact ⟨fun e => by rw [nI_inj (h k rfl) ht e], fun e => by cases e; rfl⟩
theorem not_in {a : Int32} {n : Nat} (hn : n < 2 ^ 31) (h : ¬ vp_in a n) : ∀ t, t < n → ¬ a = nI t := fun t ht e => h (by rw [e]; exact vp_in_nI ht hn)
/-- a place in a row, or none -/
theorem ixcase {a : Int32} {n : Nat} {A B : Prop} (hn : n < 2 ^ 31) (h1 : ∀ t, t < n → a = nI t → B) (h0 : ¬ vp_in a n → A) : (a < 0 → A) ∧ (¬ (a < 0) → ((nI n ≤ a → A) ∧ (¬ (nI n ≤ a) → B))) := by
  refine ⟨fun c => h0 (fun h => h (Or.inl c)), fun c => ⟨fun c2 => h0 (fun h => ?_), fun c2 => ?_⟩⟩
  · obtain ⟨j, hj, e⟩ := vp_in_of h hn
    rw [e] at c2
    exact nI_ge hj hn c2
  · rcases pk_ix a hn with q | q | ⟨j, hj, e⟩
    · exact absurd q c
    · exact absurd q c2
    · exact h1 j hj e
theorem upA_i (F : Nat → Nat → Int32) (k : Nat) (f : Nat → Int32) (j i : Nat) : upA F k f j i = if j = k then f i else F j i := by
  unfold upA
  split <;> rfl
theorem upd_i (f : Nat → Int32) (k : Nat) (x : Int32) (j : Nat) : upd f k x j = if j = k then x else f j := rfl
theorem ix30 {t c : Nat} (ht : t < 8) (hc : c < 30) : vp_in (nI t * 30 + nI c) 240 ∧ (nI t * 30 + nI c).toNatClampNeg = t * 30 + c := by
  simp only [g_lit, pk_mul, nI_add]
  exact ⟨vp_in_nI (by omega) (by omega), nI_clamp (by omega)⟩
theorem jx30 {t c : Nat} (ht : t < 8) (hc : c < 30) : vp_in (30 * nI t + nI c) 240 ∧ (30 * nI t + nI c).toNatClampNeg = t * 30 + c := by
  simp only [g_lit, pk_mul, nI_add]
  rw [Nat.mul_comm 30 t]
  exact ⟨vp_in_nI (by omega) (by omega), nI_clamp (by omega)⟩
theorem ix1 {c n : Nat} (hc : c < n) (hn : n < 2 ^ 31) : vp_in (nI c) n ∧ (nI c).toNatClampNeg = c := ⟨vp_in_nI hc hn, nI_clamp (by omega)⟩
/-- the absolute difference of two small numbers -/
def dist (a b : Nat) : Nat := if a < b then b - a else a - b
theorem abs_sub {a b : Nat} (ha : a < 2 ^ 30) (hb : b < 2 ^ 30) : (if 0 ≤ (nI a - nI b) then (nI a - nI b) else 0 - (nI a - nI b)) = nI (dist a b) := by
  have e1 := pk_sub_toInt ha hb
  have e2 := pk_sub_toInt hb ha
  unfold dist
  by_cases h : a < b
  · rw [if_neg, if_pos h]
    · rw [← pk_sub (Nat.le_of_lt h)]
      rw [Int32.zero_sub, Int32.neg_sub]
    · rw [Int32.le_iff_toInt_le, e1]
      simp
      omega
  · rw [if_pos, if_neg h, pk_sub (by omega)]
    rw [Int32.le_iff_toInt_le, e1]
    simp
    omega
section GSTAT
variable {D : va_G} {d : Nat} {Q : Int32 → (Nat → Nat → Int32) → (Nat → Int64) → Prop} {F : Nat → Nat → Int32} {G : Nat → Int64}
theorem c_isCue {a : Int32} (h1 : ∀ c, c < 30 → a = nI c → Q 1 F G) (h0 : ¬ vp_in a 30 → Q 0 F G) : AMi D (d + 1) nDesk_isCue [.int a] F G Q := eDesk_isCue (ixcase (n := 30) (by omega) h1 h0)
theorem c_isCue1 {c : Nat} (hc : c < 30) (h : Q 1 F G) : AMi D (d + 1) nDesk_isCue [.int (nI c)] F G Q := c_isCue (fun _ _ _ => h) (fun n => absurd (vp_in_nI hc (by omega)) n)
theorem c_isWithin {a b c : Int32} (h1 : b ≤ a → a ≤ c → Q 1 F G) (h0 : ¬ (b ≤ a ∧ a ≤ c) → Q 0 F G) : AMi D (d + 1) nDesk_isWithin [.int a, .int b, .int c] F G Q := by
  refine eDesk_isWithin ⟨fun q => h0 (fun z => ?_), fun q => ⟨fun q2 => h0 (fun z => ?_), fun q2 => h1 (Int32.not_lt.mp q) (Int32.not_lt.mp q2)⟩⟩
  · exact Int32.not_lt.mpr z.1 q
  · exact Int32.not_lt.mpr z.2 q2
theorem c_isFlag {a : Int32} (h1 : 0 ≤ a → a ≤ 1 → Q 1 F G) (h0 : ¬ (0 ≤ a ∧ a ≤ 1) → Q 0 F G) : AMi D (d + 2) nDesk_isFlag [.int a] F G Q :=
  eDesk_isFlag (c_isWithin (fun a b => ⟨bI_nar true, h1 a b⟩) (fun a => ⟨bI_nar false, h0 a⟩))
theorem c_isKind {a : Int32} (h1 : 0 ≤ a → a ≤ 3 → Q 1 F G) (h0 : ¬ (0 ≤ a ∧ a ≤ 3) → Q 0 F G) : AMi D (d + 2) nDesk_isKind [.int a] F G Q :=
  eDesk_isKind (c_isWithin (fun a b => ⟨bI_nar true, h1 a b⟩) (fun a => ⟨bI_nar false, h0 a⟩))
end GSTAT
