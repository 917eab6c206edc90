/-! PLANS, as numbers: whom the model chooses is whom the class's least worth holds; forwards and backwards give one worth -/
def chM (T P : Nat) (st : Nat → Nat → Bool) (hh : Nat → Nat) (k : Nat) (c : gVec) : Option Nat := firstB (fun t => st (P - (k + 1)) t && (match mV T P st hh k (decV c t) with
  | none => false
  | some v => decide (mV T P st hh (k + 1) c = some (v + hh t)))) T
def stV (c : gVec) (o : Option Nat) : gVec := match o with
  | none => c
  | some t => decV c t
def hrO (hh : Nat → Nat) (o : Option Nat) : Nat := match o with
  | none => 0
  | some t => hh t
def dgO (o : Option Nat) : Nat := match o with
  | none => 8
  | some t => t
section PPLAN2
variable {T P : Nat} {st : Nat → Nat → Bool} {hh : Nat → Nat}
theorem choice (hT : T ≤ 8) (hP : P ≤ 10) (hh1 : ∀ t, 0 < hh t) {k : Nat} {c : gVec} (hk : k + 1 ≤ P) {x : Nat} (h : bV T P st hh (k + 1) c = some x) : ∃ x', bV T P st hh k (stV c (chM T P st hh k c)) = some x' ∧ x = hrO hh (chM T P st hh k c) * HR + dgO (chM T P st hh k c) * EW P k + x' := by
  have hEp := EW_pos (P := P) k
  have hEH := EW_HR hk hP
  rw [EW_s] at hEH
  obtain ⟨hrs, dig, hm, hx, hd⟩ := (bm (st := st) (hh := hh) hT hP (k + 1) c hk).2 x h
  rw [EW_s] at hd
  have ihc := bm (st := st) (hh := hh) hT hP k c (by omega)
  have ih := fun t => bm (st := st) (hh := hh) hT hP k (decV c t) (by omega)
  -- a good track
  have goodc : ∀ t v, t < T → mV T P st hh k (decV c t) = some v → hrs = v + hh t → 0 < c t := by
    intro t v ht hv he
    rcases Nat.eq_zero_or_pos (c t) with e0 | e0
    · rw [dec_0 e0] at hv
      have h2 := hm
      rw [mV] at h2
      obtain ⟨y, hy, e⟩ := opt_base (f := fun t => if st (P - (k + 1)) t then addO (mV T P st hh k (decV c t)) (hh t) else none) hv T
      rw [h2] at e
      cases e
      have := hh1 t
      omega
    · exact e0
  have low : ∀ t v, t < T → st (P - (k + 1)) t = true → mV T P st hh k (decV c t) = some v → hrs = v + hh t → ∃ d1, d1 < EW P k ∧ x ≤ hrs * HR + t * EW P k + d1 := by
    intro t v ht est hv he
    have e0 := goodc t v ht hv he
    cases hb : bV T P st hh k (decV c t) with
    | none => rw [(ih t).1 hb] at hv; cases hv
    | some x1 =>
      obtain ⟨h1, d1, e1, e2, e3⟩ := (ih t).2 x1 hb
      rw [hv] at e1
      cases e1
      rw [bV] at h
      obtain ⟨y, hy, e⟩ := opt_f (base := addO (bV T P st hh k c) (8 * EW P k)) (f := fun t => if st (P - (k + 1)) t && decide (0 < c t) then addO (bV T P st hh k (decV c t)) (hh t * HR + t * EW P k) else none) (t := t) (x := x1 + (hh t * HR + t * EW P k)) (by rw [est, decide_eq_true e0, hb]; rfl) T ht
      rw [h] at e
      cases e
      exact ⟨d1, e3, by rw [he, Nat.add_mul]; omega⟩
  have isgood : ∀ t, t < T → ((st (P - (k + 1)) t && (match mV T P st hh k (decV c t) with | none => false | some v => decide (mV T P st hh (k + 1) c = some (v + hh t)))) = true ↔ st (P - (k + 1)) t = true ∧ ∃ v, mV T P st hh k (decV c t) = some v ∧ hrs = v + hh t) := by
    intro t ht
    rw [Bool.and_eq_true]
    constructor
    · rintro ⟨h1, h2⟩
      refine ⟨h1, ?_⟩
      cases hv : mV T P st hh k (decV c t) with
      | none => rw [hv] at h2; cases h2
      | some v =>
        rw [hv] at h2
        have h2 := of_decide_eq_true h2
        rw [hm] at h2
        cases h2
        exact ⟨v, rfl, rfl⟩
    · rintro ⟨h1, v, hv, he⟩
      refine ⟨h1, ?_⟩
      rw [hv, hm, he]
      exact decide_eq_true rfl
  have h0 := h
  rw [bV] at h0
  rcases opt_att T h0 with e | ⟨t, ht, e⟩
  · -- nobody is put in
    obtain ⟨x1, hb, e2⟩ := addO_some e
    obtain ⟨h1, d1, e1, e3, e4⟩ := ihc.2 x1 hb
    have hh0 : hrs = h1 := by unfold HR at *; omega
    cases hc : chM T P st hh k c with
    | none => exact ⟨x1, hb, by show x = 0 * HR + 8 * EW P k + x1; omega⟩
    | some t0 =>
      obtain ⟨l1, l2⟩ := firstB_lt hc
      obtain ⟨est, v, hv, he⟩ := (isgood t0 l1).mp l2
      obtain ⟨d2, g1, g2⟩ := low t0 v l1 est hv he
      have ht8 : t0 * EW P k ≤ 7 * EW P k := Nat.mul_le_mul_right _ (by omega)
      unfold HR at *
      omega
  · split at e
    · rename_i hst
      rw [Bool.and_eq_true] at hst
      obtain ⟨x1, hb, e2⟩ := addO_some e
      obtain ⟨h1, d1, e1, e3, e4⟩ := (ih t).2 x1 hb
      have ht8 : t * EW P k ≤ 7 * EW P k := Nat.mul_le_mul_right _ (by omega)
      have hh0 : hrs = h1 + hh t := by
        have e5 : x = (h1 + hh t) * HR + (t * EW P k + d1) := by rw [Nat.add_mul]; omega
        unfold HR at *
        omega
      have gt : (st (P - (k + 1)) t && (match mV T P st hh k (decV c t) with | none => false | some v => decide (mV T P st hh (k + 1) c = some (v + hh t)))) = true := (isgood t ht).mpr ⟨hst.1, h1, e1, hh0⟩
      cases hc : chM T P st hh k c with
      | none =>
        have := firstB_none.mp hc t ht
        rw [gt] at this
        cases this
      | some t0 =>
        obtain ⟨l1, l2⟩ := firstB_lt hc
        obtain ⟨est, v, hv, he⟩ := (isgood t0 l1).mp l2
        obtain ⟨d2, g1, g2⟩ := low t0 v l1 est hv he
        have hle : t * EW P k < (t0 + 1) * EW P k := by
          rw [Nat.add_mul, Nat.one_mul]
          have e5 : x = hrs * HR + (t * EW P k + d1) := by rw [hh0, Nat.add_mul]; omega
          omega
        have hlt := Nat.lt_of_mul_lt_mul_right hle
        have hge : t0 ≤ t := by
          rcases Nat.lt_or_ge t t0 with z | z
          · exfalso
            have hmin : firstB (fun t => st (P - (k + 1)) t && (match mV T P st hh k (decV c t) with | none => false | some v => decide (mV T P st hh (k + 1) c = some (v + hh t)))) t0 = none := by
              cases hz : firstB (fun t => st (P - (k + 1)) t && (match mV T P st hh k (decV c t) with | none => false | some v => decide (mV T P st hh (k + 1) c = some (v + hh t)))) t0 with
              | none => rfl
              | some j =>
                exfalso
                have hj := firstB_lt hz
                have : ∀ n, t0 ≤ n → firstB (fun t => st (P - (k + 1)) t && (match mV T P st hh k (decV c t) with | none => false | some v => decide (mV T P st hh (k + 1) c = some (v + hh t)))) n = some j := by
                  intro n
                  induction n with
                  | zero => intro hn; rw [show t0 = 0 by omega] at hz; exact hz
                  | succ n ihn =>
                    intro hn
                    by_cases e : t0 = n + 1
                    · rw [← e]; exact hz
                    · rw [firstB, ihn (by omega)]
                have h9 := this T (by omega)
                have h8 : firstB (fun t => st (P - (k + 1)) t && (match mV T P st hh k (decV c t) with | none => false | some v => decide (mV T P st hh (k + 1) c = some (v + hh t)))) T = some t0 := hc
                rw [h8] at h9
                cases h9
                omega
            have := firstB_none.mp hmin t z
            rw [gt] at this
            cases this
          · exact z
        have : t0 = t := by omega
        subst this
        exact ⟨x1, hb, by show x = hh t0 * HR + t0 * EW P k + x1; omega⟩
    · cases e
/-- a chosen track is needed -/
theorem choice_pos (hh1 : ∀ t, 0 < hh t) {k : Nat} {c : gVec} {t : Nat} (h : chM T P st hh k c = some t) : t < T ∧ st (P - (k + 1)) t = true ∧ 0 < c t := by
  obtain ⟨l1, l2⟩ := firstB_lt h
  rw [Bool.and_eq_true] at l2
  refine ⟨l1, l2.1, ?_⟩
  cases hv : mV T P st hh k (decV c t) with
  | none => rw [hv] at l2; cases l2.2
  | some v =>
    rw [hv] at l2
    have h2 := of_decide_eq_true l2.2
    rcases Nat.eq_zero_or_pos (c t) with e0 | e0
    · rw [dec_0 e0] at hv
      rw [mV] at h2
      obtain ⟨y, hy, e⟩ := opt_base (f := fun t => if st (P - (k + 1)) t then addO (mV T P st hh k (decV c t)) (hh t) else none) hv T
      rw [h2] at e
      cases e
      have := hh1 t
      omega
    · exact e0
/-- too many are needed -/
theorem sumN_dec {c : gVec} {t : Nat} : ∀ n, sumN c n ≤ sumN (decV c t) n + (if t < n then 1 else 0)
  | 0 => by rw [sumN]; omega
  | n + 1 => by
    have ih := sumN_dec (c := c) (t := t) n
    rw [sumN, sumN]
    by_cases e : n = t
    · rw [if_neg (by omega)] at ih
      rw [if_pos (by omega), show decV c t n = c n - 1 from by unfold decV; rw [if_pos e]]
      omega
    · rw [show decV c t n = c n from by unfold decV; rw [if_neg e]]
      by_cases e2 : t < n
      · rw [if_pos e2] at ih; rw [if_pos (by omega)]; omega
      · rw [if_neg e2] at ih; rw [if_neg (by omega)]; omega
theorem mV_sum : ∀ k c v, mV T P st hh k c = some v → sumN c T ≤ k
  | 0, c, v, h => by
    rw [mV] at h
    split at h
    · rename_i e
      rw [sumN_zero T (fun t ht => zeroB_iff.mp e t ht)]
      omega
    · cases h
  | k + 1, c, v, h => by
    rw [mV] at h
    rcases opt_att T h with e | ⟨t, ht, e⟩
    · have := mV_sum k c v e; omega
    · split at e
      · obtain ⟨y, hy, _⟩ := addO_some e
        have := mV_sum k _ y hy
        have h2 := sumN_dec (c := c) (t := t) T
        rw [if_pos ht] at h2
        omega
      · cases e
theorem mV_le {H : Nat} (hH : ∀ t, hh t ≤ H) : ∀ k c v, mV T P st hh k c = some v → v ≤ k * H
  | 0, c, v, h => by
    rw [mV] at h
    split at h
    · cases h; omega
    · cases h
  | k + 1, c, v, h => by
    rw [mV] at h
    rw [Nat.succ_mul]
    rcases opt_att T h with e | ⟨t, ht, e⟩
    · have := mV_le hH k c v e; omega
    · split at e
      · obtain ⟨y, hy, e2⟩ := addO_some e
        have := mV_le hH k _ y hy
        have := hH t
        omega
      · cases e
theorem wV_le (hT : T ≤ 8) {H : Nat} (hH : ∀ t, hh t ≤ H) : ∀ p c x, wV T st hh p c = some x → x ≤ p * ((H + 1) * HR)
  | 0, c, v, h => by
    rw [wV] at h
    split at h
    · cases h; omega
    · cases h
  | p + 1, c, x, h => by
    have h9 : (9 : Nat) ^ (9 - p) ≤ 9 ^ 9 := Nat.pow_le_pow_right (by omega) (by omega)
    have e9 : (9 : Nat) ^ 9 * 9 = HR := by decide
    rw [wV] at h
    rw [Nat.succ_mul, Nat.add_mul H 1 HR, Nat.one_mul]
    rcases opt_att T h with e | ⟨t, ht, e⟩
    · obtain ⟨y, hy, e2⟩ := addO_some e
      have := wV_le hT hH p c y hy
      rw [Nat.add_mul H 1 HR, Nat.one_mul] at this
      omega
    · split at e
      · obtain ⟨y, hy, e2⟩ := addO_some e
        have := wV_le hT hH p _ y hy
        rw [Nat.add_mul H 1 HR, Nat.one_mul] at this
        have h1 : hh t * HR ≤ H * HR := Nat.mul_le_mul_right _ (hH t)
        have h2 : t * 9 ^ (9 - p) ≤ 7 * 9 ^ 9 := Nat.mul_le_mul (by omega) h9
        omega
      · cases e
/-! forwards and backwards -/
theorem fwd_bwd (hP : P ≤ 10) {N : gVec} (hN : ∀ t, T ≤ t → N t = 0) : ∀ p k c c' x y, p + k = P → (∀ t, c t + c' t = N t) → wV T st hh p c = some x → bV T P st hh k c' = some y → ∃ z, z ≤ x + y ∧ bV T P st hh P N = some z
  | 0, k, c, c', x, y, hk, hs, hw, hb => by
    rw [wV] at hw
    split at hw
    · rename_i e
      cases hw
      have hz := zeroB_iff.mp e
      have : c' = N := funext (fun t => by
        have h1 := hs t
        by_cases ht : t < T
        · rw [hz t ht] at h1; omega
        · have := hN t (by omega); omega)
      rw [this, show k = P by omega] at hb
      exact ⟨y, by omega, hb⟩
    · cases hw
  | p + 1, k, c, c', x, y, hk, hs, hw, hb => by
    have hE := EW_w (P := P) (p := p) (k := k) (by omega) hP
    have hpp : P - (k + 1) = p := by omega
    rw [wV] at hw
    rcases opt_att T hw with e | ⟨t, ht, e⟩
    · obtain ⟨x0, hx0, e2⟩ := addO_some e
      have hb2 : ∃ z, z ≤ y + 8 * EW P k ∧ bV T P st hh (k + 1) c' = some z := by
        rw [bV]
        exact opt_base (by rw [hb]; rfl) T
      obtain ⟨z0, hz0, hbz⟩ := hb2
      obtain ⟨z, hz, hfin⟩ := fwd_bwd hP hN p (k + 1) c c' x0 z0 (by omega) hs hx0 hbz
      exact ⟨z, by omega, hfin⟩
    · split at e
      · rename_i hst
        rw [Bool.and_eq_true] at hst
        have hct := of_decide_eq_true hst.2
        obtain ⟨x0, hx0, e2⟩ := addO_some e
        have hb2 : ∃ z, z ≤ y + (hh t * HR + t * EW P k) ∧ bV T P st hh (k + 1) (incV c' t) = some z := by
          rw [bV]
          refine opt_f (t := t) ?_ T ht
          rw [hpp, hst.1, decide_eq_true (show 0 < incV c' t t by unfold incV; rw [if_pos rfl]; omega), dec_inc, hb]
          rfl
        obtain ⟨z0, hz0, hbz⟩ := hb2
        obtain ⟨z, hz, hfin⟩ := fwd_bwd hP hN p (k + 1) (decV c t) (incV c' t) x0 z0 (by omega) (fun u => by
          have := hs u
          unfold decV incV
          by_cases e : u = t
          · rw [if_pos e, if_pos e]; rw [e] at this ⊢; omega
          · rw [if_neg e, if_neg e]; exact this) hx0 hbz
        exact ⟨z, by rw [← hE] at e2; omega, hfin⟩
      · cases e
theorem bwd_fwd (hP : P ≤ 10) {N : gVec} (hN : ∀ t, T ≤ t → N t = 0) : ∀ k p c c' x y, p + k = P → (∀ t, c t + c' t = N t) → wV T st hh p c = some x → bV T P st hh k c' = some y → ∃ z, z ≤ x + y ∧ wV T st hh P N = some z
  | 0, p, c, c', x, y, hk, hs, hw, hb => by
    rw [bV] at hb
    split at hb
    · rename_i e
      cases hb
      have hz := zeroB_iff.mp e
      have : c = N := funext (fun t => by
        have h1 := hs t
        by_cases ht : t < T
        · rw [hz t ht] at h1; omega
        · have := hN t (by omega); omega)
      rw [this, show p = P by omega] at hw
      exact ⟨x, by omega, hw⟩
    · cases hb
  | k + 1, p, c, c', x, y, hk, hs, hw, hb => by
    have hE := EW_w (P := P) (p := p) (k := k) (by omega) hP
    have hpp : P - (k + 1) = p := by omega
    rw [bV, hpp] at hb
    rcases opt_att T hb with e | ⟨t, ht, e⟩
    · obtain ⟨y0, hy0, e2⟩ := addO_some e
      have hw2 : ∃ z, z ≤ x + 8 * 9 ^ (9 - p) ∧ wV T st hh (p + 1) c = some z := by
        rw [wV]
        exact opt_base (by rw [hw]; rfl) T
      obtain ⟨z0, hz0, hwz⟩ := hw2
      obtain ⟨z, hz, hfin⟩ := bwd_fwd hP hN k (p + 1) c c' z0 y0 (by omega) hs hwz hy0
      exact ⟨z, by omega, hfin⟩
    · split at e
      · rename_i hst
        rw [Bool.and_eq_true] at hst
        have hct := of_decide_eq_true hst.2
        obtain ⟨y0, hy0, e2⟩ := addO_some e
        have hw2 : ∃ z, z ≤ x + (hh t * HR + t * 9 ^ (9 - p)) ∧ wV T st hh (p + 1) (incV c t) = some z := by
          rw [wV]
          refine opt_f (t := t) ?_ T ht
          rw [hst.1, decide_eq_true (show 0 < incV c t t by unfold incV; rw [if_pos rfl]; omega), dec_inc, hw]
          rfl
        obtain ⟨z0, hz0, hwz⟩ := hw2
        obtain ⟨z, hz, hfin⟩ := bwd_fwd hP hN k (p + 1) (incV c t) (decV c' t) z0 y0 (by omega) (fun u => by
          have := hs u
          unfold decV incV
          by_cases e : u = t
          · rw [if_pos e, if_pos e]; rw [e] at this ⊢; omega
          · rw [if_neg e, if_neg e]; exact this) hwz hy0
        exact ⟨z, by rw [hE] at e2; omega, hfin⟩
      · cases e
theorem wV_bV (hP : P ≤ 10) {N : gVec} (hN : ∀ t, T ≤ t → N t = 0) : wV T st hh P N = bV T P st hh P N := by
  have z0 : ∀ k, bV T P st hh 0 (fun _ => 0) = some k ↔ k = 0 := by
    intro k
    rw [bV, if_pos (zeroB_iff.mpr (fun _ _ => rfl))]
    exact ⟨fun h => by cases h; rfl, fun h => by rw [h]⟩
  have w0 : wV T st hh 0 (fun _ => 0) = some 0 := by
    rw [wV, if_pos (zeroB_iff.mpr (fun _ _ => rfl))]
  cases hw : wV T st hh P N with
  | none =>
    cases hb : bV T P st hh P N with
    | none => rfl
    | some y =>
      obtain ⟨z, _, e⟩ := bwd_fwd (st := st) (hh := hh) hP hN P 0 (fun _ => 0) N 0 y (by omega) (fun t => by omega) w0 hb
      rw [hw] at e
      cases e
  | some x =>
    obtain ⟨z, hz, e⟩ := fwd_bwd (st := st) (hh := hh) hP hN P 0 N (fun _ => 0) x 0 (by omega) (fun t => by omega) hw ((z0 0).mpr rfl)
    obtain ⟨z2, hz2, e2⟩ := bwd_fwd (st := st) (hh := hh) hP hN P 0 (fun _ => 0) N 0 z (by omega) (fun t => by omega) w0 e
    rw [hw] at e2
    cases e2
    rw [e, show x = z by omega]
end PPLAN2
/-! few states -/
def fewS (i S : Nat) : Nat := if S ≤ i then 2 ^ S else 3 ^ (S - i) * 2 ^ (2 * i - S)
theorem few_step : ∀ i, i < 8 → ∀ S, S ≤ 16 → S ≤ 2 * i → ∀ v, v < 3 → fewS i S * (v + 1) ≤ fewS (i + 1) (S + v) := by decide +kernel
theorem few_end : ∀ i, i ≤ 8 → ∀ S, S ≤ 10 → S ≤ 2 * i → fewS i S ≤ 576 := by decide +kernel
theorem few {n : Nat → Nat} (hn : ∀ t, n t ≤ 2) : ∀ i, i ≤ 8 → wt (fun t => n t + 1) i ≤ fewS i (sumN n i) ∧ sumN n i ≤ 2 * i
  | 0, _ => ⟨by rw [wt, sumN]; decide, by rw [sumN]; omega⟩
  | i + 1, h => by
    obtain ⟨h1, h2⟩ := few hn i (by omega)
    have h3 := hn i
    have h4 := few_step i (by omega) (sumN n i) (by omega) h2 (n i) (by omega)
    rw [wt, sumN]
    exact ⟨Nat.le_trans (Nat.mul_le_mul_right _ h1) h4, by omega⟩
