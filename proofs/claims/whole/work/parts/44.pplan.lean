/-! PLANS, as numbers: digits; the least hours as the model finds them, the least worth as the class finds it -/
def wt (r : Nat → Nat) : Nat → Nat
  | 0 => 1
  | t + 1 => wt r t * r t
def dg (r : Nat → Nat) (x t : Nat) : Nat := x / wt r t % r t
theorem wt_pos {r : Nat → Nat} (hr : ∀ t, 0 < r t) : ∀ t, 0 < wt r t
  | 0 => Nat.one_pos
  | t + 1 => Nat.mul_pos (wt_pos hr t) (hr t)
theorem wt_mul {r : Nat → Nat} {t : Nat} : ∀ k, ∃ m, wt r (t + k) = wt r t * m
  | 0 => ⟨1, by rw [Nat.mul_one]; rfl⟩
  | k + 1 => by
    obtain ⟨m, hm⟩ := wt_mul (r := r) (t := t) k
    exact ⟨m * r (t + k), by rw [← Nat.add_assoc, wt, hm, Nat.mul_assoc]⟩
theorem wt_dvd {r : Nat → Nat} {t u : Nat} (h : t < u) : ∃ m, wt r u = wt r t * (r t * m) := by
  obtain ⟨m, hm⟩ := wt_mul (r := r) (t := t + 1) (u - (t + 1))
  rw [show t + 1 + (u - (t + 1)) = u by omega] at hm
  exact ⟨m, by rw [hm, wt, Nat.mul_assoc]⟩
theorem pred_mod {X r : Nat} (h : 0 < X % r) (hr : 0 < r) : (X - 1) % r = X % r - 1 ∧ (X - 1) / r = X / r := by
  have e := Nat.div_add_mod X r
  have hl := Nat.mod_lt X hr
  have e2 : X - 1 = r * (X / r) + (X % r - 1) := by omega
  constructor
  · rw [e2, Nat.mul_add_mod, Nat.mod_eq_of_lt (by omega)]
  · rw [e2, Nat.mul_add_div hr, Nat.div_eq_of_lt (show X % r - 1 < r by omega), Nat.add_zero]
theorem dg_sub {r : Nat → Nat} (hr : ∀ t, 0 < r t) {x t : Nat} (h : 0 < dg r x t) (u : Nat) : dg r (x - wt r t) u = if u = t then dg r x u - 1 else dg r x u := by
  have hw := wt_pos hr t
  have hX : 0 < x / wt r t := by
    rcases Nat.eq_zero_or_pos (x / wt r t) with e | e
    · unfold dg at h; rw [e, Nat.zero_mod] at h; omega
    · exact e
  have hle : wt r t ≤ x := by
    rcases Nat.lt_or_ge x (wt r t) with e | e
    · rw [Nat.div_eq_of_lt e] at hX; omega
    · exact e
  have e1 : (x - wt r t) / wt r t = x / wt r t - 1 := by
    have := Nat.sub_mul_div x (wt r t) 1
    rw [Nat.mul_one] at this
    exact this
  obtain ⟨p1, p2⟩ := pred_mod h (hr t)
  by_cases e : u = t
  · rw [if_pos e, e]
    unfold dg
    rw [e1]
    exact p1
  · rw [if_neg e]
    by_cases hlt : u < t
    · obtain ⟨m, hm⟩ := wt_dvd (r := r) hlt
      have hle2 : r u * m ≤ x / wt r u := by
        rw [Nat.le_div_iff_mul_le (wt_pos hr u), Nat.mul_comm, ← hm]
        exact hle
      unfold dg
      rw [hm, Nat.sub_mul_div x (wt r u) (r u * m), Nat.sub_mul_mod hle2]
    · obtain ⟨m, hm⟩ := wt_dvd (r := r) (show t < u by omega)
      unfold dg
      rw [hm, ← Nat.div_div_eq_div_mul, ← Nat.div_div_eq_div_mul, ← Nat.div_div_eq_div_mul, ← Nat.div_div_eq_div_mul, e1, p2]
theorem dg_0 {r : Nat → Nat} (u : Nat) : dg r 0 u = 0 := by unfold dg; rw [Nat.zero_div, Nat.zero_mod]
theorem dg_lt {r : Nat → Nat} (hr : ∀ t, 0 < r t) (x t : Nat) : dg r x t < r t := Nat.mod_lt _ (hr t)
theorem dg_zero {r : Nat → Nat} (hr : ∀ t, 0 < r t) {x : Nat} : ∀ T, x < wt r T → (∀ t, t < T → dg r x t = 0) → x = 0
  | 0, h, _ => by rw [wt] at h; omega
  | T + 1, h, hz => by
    refine dg_zero hr T ?_ (fun t ht => hz t (by omega))
    have h1 := hz T (by omega)
    rw [wt] at h
    unfold dg at h1
    have h2 : x / wt r T < r T := by rw [Nat.div_lt_iff_lt_mul (wt_pos hr T), Nat.mul_comm]; exact h
    rw [Nat.mod_eq_of_lt h2] at h1
    rcases Nat.lt_or_ge x (wt r T) with e | e
    · exact e
    · have := Nat.div_pos e (wt_pos hr T)
      omega
theorem wt_le {r : Nat → Nat} (hr : ∀ t, 0 < r t) {T t : Nat} (h : T ≤ t) : wt r T ≤ wt r t := by
  obtain ⟨m, hm⟩ := wt_mul (r := r) (t := T) (t - T)
  rw [show T + (t - T) = t by omega] at hm
  have hp := wt_pos hr t
  rw [hm]
  rcases Nat.eq_zero_or_pos m with e | e
  · rw [hm, e, Nat.mul_zero] at hp; omega
  · exact Nat.le_mul_of_pos_right _ e
theorem dg_hi {r : Nat → Nat} (hr : ∀ t, 0 < r t) {x T t : Nat} (h : x < wt r T) (ht : T ≤ t) : dg r x t = 0 := by
  unfold dg
  rw [Nat.div_eq_of_lt (Nat.lt_of_lt_of_le h (wt_le hr ht)), Nat.zero_mod]
theorem dg_top {r : Nat → Nat} (hr : ∀ t, 0 < r t) {T t : Nat} (h : t < T) : dg r (wt r T - 1) t = r t - 1 := by
  obtain ⟨m, hm⟩ := wt_dvd (r := r) h
  have hw := wt_pos hr t
  have hp := wt_pos hr T
  have hrt := hr t
  rw [hm] at hp ⊢
  have hb : 0 < r t * m := Nat.pos_of_mul_pos_left hp
  have hm0 : 0 < m := Nat.pos_of_mul_pos_left hb
  unfold dg
  have e1 : (wt r t * (r t * m) - 1) / wt r t = r t * m - 1 := by
    obtain ⟨b, hb2⟩ : ∃ b, r t * m = b + 1 := ⟨r t * m - 1, by omega⟩
    rw [hb2, Nat.mul_add, Nat.mul_one, show wt r t * b + wt r t - 1 = wt r t * b + (wt r t - 1) by omega, Nat.mul_add_div hw, Nat.div_eq_of_lt (by omega)]
    rfl
  rw [e1]
  obtain ⟨n, hn⟩ : ∃ n, m = n + 1 := ⟨m - 1, by omega⟩
  rw [hn, Nat.mul_add, Nat.mul_one, show r t * n + r t - 1 = r t * n + (r t - 1) by omega, Nat.mul_add_mod, Nat.mod_eq_of_lt (by omega)]
def enc (r n : Nat → Nat) : Nat → Nat
  | 0 => 0
  | i + 1 => enc r n i + n i * wt r i
theorem enc_lt {r n : Nat → Nat} (hr : ∀ t, 0 < r t) (hn : ∀ t, n t < r t) : ∀ i, enc r n i < wt r i
  | 0 => by rw [enc, wt]; omega
  | i + 1 => by
    have ih := enc_lt hr hn i
    have h2 : (n i + 1) * wt r i ≤ r i * wt r i := Nat.mul_le_mul_right _ (hn i)
    rw [enc, wt, Nat.mul_comm (wt r i) (r i)]
    rw [Nat.add_mul, Nat.one_mul] at h2
    omega
theorem enc_dg {r n : Nat → Nat} (hr : ∀ t, 0 < r t) (hn : ∀ t, n t < r t) {t : Nat} : ∀ i, t < i → dg r (enc r n i) t = n t
  | 0, h => by omega
  | i + 1, h => by
    have hw := wt_pos hr i
    rw [enc]
    by_cases e : t = i
    · subst e
      unfold dg
      rw [Nat.add_comm, Nat.mul_comm, Nat.mul_add_div hw, Nat.div_eq_of_lt (enc_lt hr hn t), Nat.add_zero, Nat.mod_eq_of_lt (hn t)]
    · obtain ⟨m, hm⟩ := wt_dvd (r := r) (show t < i by omega)
      have ih := enc_dg hr hn (t := t) i (by omega)
      unfold dg at ih ⊢
      rw [hm, show n i * (wt r t * (r t * m)) = wt r t * (r t * (m * n i)) by rw [Nat.mul_comm (n i), Nat.mul_assoc, Nat.mul_assoc], Nat.add_comm, Nat.mul_add_div (wt_pos hr t), Nat.mul_add_mod]
      exact ih
/-! optimum -/
abbrev gVec := Nat → Nat
def decV (c : gVec) (t : Nat) : gVec := fun u => if u = t then c u - 1 else c u
def incV (c : gVec) (t : Nat) : gVec := fun u => if u = t then c u + 1 else c u
theorem dec_inc (c : gVec) (t : Nat) : decV (incV c t) t = c := by
  funext u
  unfold decV incV
  by_cases e : u = t
  · rw [if_pos e, if_pos e]; omega
  · rw [if_neg e, if_neg e]
theorem dec_0 {c : gVec} {t : Nat} (h : c t = 0) : decV c t = c := by
  funext u
  unfold decV
  by_cases e : u = t
  · rw [if_pos e, e, h]
  · rw [if_neg e]
theorem dg_dec {r : Nat → Nat} (hr : ∀ t, 0 < r t) {x t : Nat} (h : 0 < dg r x t) : dg r (x - wt r t) = decV (dg r x) t := funext (fun u => dg_sub hr h u)
def addO (o : Option Nat) (k : Nat) : Option Nat := match o with
  | none => none
  | some x => some (x + k)
def ominO (a b : Option Nat) : Option Nat := match a, b with
  | none, b => b
  | some a, none => some a
  | some a, some b => some (if b < a then b else a)
def optN (base : Option Nat) (f : Nat → Option Nat) : Nat → Option Nat
  | 0 => base
  | t + 1 => ominO (optN base f t) (f t)
theorem omin_l {a b : Option Nat} {x : Nat} (h : a = some x) : ∃ y, y ≤ x ∧ ominO a b = some y := by
  subst h
  cases b with
  | none => exact ⟨x, Nat.le_refl x, rfl⟩
  | some b => exact ⟨_, by split <;> omega, rfl⟩
theorem omin_r {a b : Option Nat} {x : Nat} (h : b = some x) : ∃ y, y ≤ x ∧ ominO a b = some y := by
  subst h
  cases a with
  | none => exact ⟨x, Nat.le_refl x, rfl⟩
  | some a => exact ⟨_, by split <;> omega, rfl⟩
theorem omin_att {a b : Option Nat} {y : Nat} (h : ominO a b = some y) : a = some y ∨ b = some y := by
  cases a with
  | none => exact Or.inr h
  | some a =>
    cases b with
    | none => exact Or.inl h
    | some b =>
      unfold ominO at h
      dsimp only at h
      split at h
      · exact Or.inr h
      · exact Or.inl h
theorem opt_base {base : Option Nat} {f : Nat → Option Nat} {x : Nat} (h : base = some x) : ∀ T, ∃ y, y ≤ x ∧ optN base f T = some y
  | 0 => ⟨x, Nat.le_refl x, h⟩
  | T + 1 => by
    obtain ⟨y, hy, e⟩ := opt_base (f := f) h T
    obtain ⟨z, hz, e2⟩ := omin_l (b := f T) e
    exact ⟨z, by omega, e2⟩
theorem opt_f {base : Option Nat} {f : Nat → Option Nat} {x t : Nat} (h : f t = some x) : ∀ T, t < T → ∃ y, y ≤ x ∧ optN base f T = some y
  | 0, ht => by omega
  | T + 1, ht => by
    by_cases e : t = T
    · subst e
      obtain ⟨z, hz, e2⟩ := omin_r (a := optN base f t) h
      exact ⟨z, hz, e2⟩
    · obtain ⟨y, hy, e⟩ := opt_f (base := base) h T (by omega)
      obtain ⟨z, hz, e2⟩ := omin_l (b := f T) e
      exact ⟨z, by omega, e2⟩
theorem opt_att {base : Option Nat} {f : Nat → Option Nat} {y : Nat} : ∀ T, optN base f T = some y → base = some y ∨ ∃ t, t < T ∧ f t = some y
  | 0, h => Or.inl h
  | T + 1, h => by
    rcases omin_att h with h | h
    · rcases opt_att T h with h | ⟨t, ht, h⟩
      · exact Or.inl h
      · exact Or.inr ⟨t, by omega, h⟩
    · exact Or.inr ⟨T, by omega, h⟩
theorem addO_some {o : Option Nat} {k x : Nat} (h : addO o k = some x) : ∃ y, o = some y ∧ x = y + k := by
  cases o with
  | none => cases h
  | some y => cases h; exact ⟨y, rfl, rfl⟩
def zeroB (T : Nat) (c : gVec) : Bool := !anyB (fun t => decide (0 < c t)) T
theorem zeroB_iff {T : Nat} {c : gVec} : zeroB T c = true ↔ ∀ t, t < T → c t = 0 := by
  unfold zeroB
  constructor
  · intro h t ht
    rcases Nat.eq_zero_or_pos (c t) with e | e
    · exact e
    · rw [anyB_hit (p := fun t => decide (0 < c t)) ht (decide_eq_true e)] at h
      cases h
  · intro h
    cases ha : anyB (fun t => decide (0 < c t)) T with
    | false => rfl
    | true =>
      obtain ⟨t, ht, e⟩ := (anyB_iff _ _).mp ha
      rw [h t ht] at e
      simp at e
def HR : Nat := 3486784401
def EW (P k : Nat) : Nat := 9 ^ (10 - P + k)
theorem HR_pow : HR = 9 ^ 10 := by decide
def mV (T P : Nat) (st : Nat → Nat → Bool) (hh : Nat → Nat) : Nat → gVec → Option Nat
  | 0, c => if zeroB T c then some 0 else none
  | k + 1, c => optN (mV T P st hh k c) (fun t => if st (P - (k + 1)) t then addO (mV T P st hh k (decV c t)) (hh t) else none) T
def bV (T P : Nat) (st : Nat → Nat → Bool) (hh : Nat → Nat) : Nat → gVec → Option Nat
  | 0, c => if zeroB T c then some 0 else none
  | k + 1, c => optN (addO (bV T P st hh k c) (8 * EW P k)) (fun t => if st (P - (k + 1)) t && decide (0 < c t) then addO (bV T P st hh k (decV c t)) (hh t * HR + t * EW P k) else none) T
def wV (T : Nat) (st : Nat → Nat → Bool) (hh : Nat → Nat) : Nat → gVec → Option Nat
  | 0, c => if zeroB T c then some 0 else none
  | p + 1, c => optN (addO (wV T st hh p c) (8 * 9 ^ (9 - p))) (fun t => if st p t && decide (0 < c t) then addO (wV T st hh p (decV c t)) (hh t * HR + t * 9 ^ (9 - p)) else none) T
section PPLAN
variable {T P : Nat} {st : Nat → Nat → Bool} {hh : Nat → Nat}
theorem EW_w {p k : Nat} (h : p + (k + 1) = P) (hP : P ≤ 10) : EW P k = 9 ^ (9 - p) := by
  unfold EW
  rw [show 10 - P + k = 9 - p by omega]
theorem EW_s (k : Nat) : EW P (k + 1) = 9 * EW P k := by
  unfold EW
  rw [show 10 - P + (k + 1) = 10 - P + k + 1 by omega, Nat.pow_succ, Nat.mul_comm]
theorem EW_HR {k : Nat} (hk : k ≤ P) (hP : P ≤ 10) : EW P k ≤ HR := by
  rw [HR_pow]
  unfold EW
  exact Nat.pow_le_pow_right (by omega) (by omega)
theorem EW_pos (k : Nat) : 0 < EW P k := Nat.pow_pos (by omega)
/-- hours are hours: the least worth has the least hours -/
theorem bm (hT : T ≤ 8) (hP : P ≤ 10) : ∀ k c, k ≤ P → (bV T P st hh k c = none → mV T P st hh k c = none) ∧ (∀ x, bV T P st hh k c = some x → ∃ hrs dig, mV T P st hh k c = some hrs ∧ x = hrs * HR + dig ∧ dig < EW P k)
  | 0, c, _ => by
    rw [bV, mV]
    refine ⟨fun h => h, fun x h => ?_⟩
    split at h
    · rename_i e
      cases h
      exact ⟨0, 0, by rw [if_pos e], by omega, EW_pos 0⟩
    · cases h
  | k + 1, c, hk => by
    have hEp := EW_pos (P := P) k
    have hEH := EW_HR hk hP
    rw [EW_s] at hEH
    have ihc := bm hT hP k c (by omega)
    have ih := fun t => bm hT hP k (decV c t) (by omega)
    rw [bV, mV]
    constructor
    · intro h
      cases hm : optN (mV T P st hh k c) (fun t => if st (P - (k + 1)) t then addO (mV T P st hh k (decV c t)) (hh t) else none) T with
      | none => rfl
      | some y =>
        have mc : ∀ z, mV T P st hh k c = some z → False := by
          intro z hz
          cases hb : bV T P st hh k c with
          | none => rw [ihc.1 hb] at hz; cases hz
          | some x1 =>
            rw [hb] at h
            obtain ⟨y, _, e⟩ := opt_base (base := addO (some x1) (8 * EW P k)) (f := fun t => if st (P - (k + 1)) t && decide (0 < c t) then addO (bV T P st hh k (decV c t)) (hh t * HR + t * EW P k) else none) rfl T
            rw [h] at e
            cases e
        rcases opt_att T hm with e | ⟨t, ht, e⟩
        · exact (mc y e).elim
        · split at e
          · rename_i est
            obtain ⟨z, hz, _⟩ := addO_some e
            rcases Nat.eq_zero_or_pos (c t) with e0 | e0
            · rw [dec_0 e0] at hz
              exact (mc z hz).elim
            · cases hb : bV T P st hh k (decV c t) with
              | none => rw [(ih t).1 hb] at hz; cases hz
              | some x1 =>
                obtain ⟨y, _, e⟩ := opt_f (base := addO (bV T P st hh k c) (8 * EW P k)) (f := fun t => if st (P - (k + 1)) t && decide (0 < c t) then addO (bV T P st hh k (decV c t)) (hh t * HR + t * EW P k) else none) (t := t) (x := x1 + (hh t * HR + t * EW P k)) (by rw [est, decide_eq_true e0, hb]; rfl) T ht
                rw [h] at e
                cases e
          · cases e
    · intro x h
      -- a bound from the base, and from each track
      have lowc : ∀ z, mV T P st hh k c = some z → ∃ d1, d1 < 9 * EW P k ∧ x ≤ z * HR + d1 := by
        intro z hz
        cases hb : bV T P st hh k c with
        | none => rw [ihc.1 hb] at hz; cases hz
        | some x1 =>
          obtain ⟨h1, d1, e1, e2, e3⟩ := ihc.2 x1 hb
          rw [hz] at e1
          cases e1
          rw [hb] at h
          obtain ⟨y, hy, e⟩ := opt_base (base := addO (some x1) (8 * EW P k)) (f := fun t => if st (P - (k + 1)) t && decide (0 < c t) then addO (bV T P st hh k (decV c t)) (hh t * HR + t * EW P k) else none) rfl T
          rw [h] at e
          cases e
          exact ⟨d1 + 8 * EW P k, by omega, by omega⟩
      have lowt : ∀ t z, t < T → st (P - (k + 1)) t = true → 0 < c t → mV T P st hh k (decV c t) = some z → ∃ d1, d1 < 9 * EW P k ∧ x ≤ (z + hh t) * HR + d1 := by
        intro t z ht est e0 hz
        have ht8 : t * EW P k ≤ 7 * EW P k := Nat.mul_le_mul_right _ (by omega)
        cases hb : bV T P st hh k (decV c t) with
        | none => rw [(ih t).1 hb] at hz; cases hz
        | some x1 =>
          obtain ⟨h1, d1, e1, e2, e3⟩ := (ih t).2 x1 hb
          rw [hz] at e1
          cases e1
          obtain ⟨y, hy, e⟩ := opt_f (base := addO (bV T P st hh k c) (8 * EW P k)) (f := fun t => if st (P - (k + 1)) t && decide (0 < c t) then addO (bV T P st hh k (decV c t)) (hh t * HR + t * EW P k) else none) (t := t) (x := x1 + (hh t * HR + t * EW P k)) (by rw [est, decide_eq_true e0, hb]; rfl) T ht
          rw [h] at e
          cases e
          exact ⟨d1 + t * EW P k, by omega, by rw [Nat.add_mul]; omega⟩
      -- where x comes from
      have att : ∃ hrs dig, (∃ y, y ≤ hrs ∧ optN (mV T P st hh k c) (fun t => if st (P - (k + 1)) t then addO (mV T P st hh k (decV c t)) (hh t) else none) T = some y) ∧ x = hrs * HR + dig ∧ dig < 9 * EW P k := by
        rcases opt_att T h with e | ⟨t, ht, e⟩
        · obtain ⟨x1, hb, e2⟩ := addO_some e
          obtain ⟨h1, d1, e1, e3, e4⟩ := ihc.2 x1 hb
          exact ⟨h1, d1 + 8 * EW P k, opt_base e1 T, by omega, by omega⟩
        · split at e
          · rename_i hst
            rw [Bool.and_eq_true] at hst
            obtain ⟨x1, hb, e2⟩ := addO_some e
            obtain ⟨h1, d1, e1, e3, e4⟩ := (ih t).2 x1 hb
            have ht8 : t * EW P k ≤ 7 * EW P k := Nat.mul_le_mul_right _ (by omega)
            refine ⟨h1 + hh t, d1 + t * EW P k, opt_f (t := t) ?_ T ht, by rw [Nat.add_mul]; omega, by omega⟩
            rw [if_pos hst.1, e1]
            rfl
          · cases e
      obtain ⟨hrs, dig, ⟨y, hy, hm⟩, hx, hd⟩ := att
      refine ⟨hrs, dig, ?_, hx, by rw [EW_s]; exact hd⟩
      have hge : hrs ≤ y := by
        have fin : ∀ z d1, d1 < 9 * EW P k → x ≤ z * HR + d1 → hrs ≤ z := by
          intro z d1 hd1 hx1
          unfold HR at *
          omega
        rcases opt_att T hm with e | ⟨t, ht, e⟩
        · obtain ⟨d1, h1, h2⟩ := lowc y e
          exact fin y d1 h1 h2
        · split at e
          · rename_i est
            obtain ⟨z, hz, e2⟩ := addO_some e
            rcases Nat.eq_zero_or_pos (c t) with e0 | e0
            · rw [dec_0 e0] at hz
              obtain ⟨d1, h1, h2⟩ := lowc z hz
              have := fin z d1 h1 h2
              omega
            · obtain ⟨d1, h1, h2⟩ := lowt t z ht est e0 hz
              have := fin (z + hh t) d1 h1 h2
              omega
          · cases e
      rw [hm, show y = hrs by omega]
end PPLAN
