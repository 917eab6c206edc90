/-! PLANS, the class's side: the row of worths, the answer, hours and tracks -/
def NVc (T P Y : Nat) (kd : Nat → Nat) (dd : Nat → Nat → Option Nat) : gVec := dg (raN P Y kd dd) (wt (raN P Y kd dd) T - 1)
theorem NVc_hi {T P Y : Nat} {kd : Nat → Nat} {dd : Nat → Nat → Option Nat} (t : Nat) (h : T ≤ t) : NVc T P Y kd dd t = 0 := by
  have := wt_pos (r := raN P Y kd dd) ra_pos T
  exact dg_hi ra_pos (by omega) h
theorem NVc_lo {T P Y : Nat} {kd : Nat → Nat} {dd : Nat → Nat → Option Nat} (t : Nat) (h : t < T) : NVc T P Y kd dd t = nuN P Y kd dd t := by
  unfold NVc
  rw [dg_top ra_pos h]
  unfold raN
  omega
theorem nI_m1 (n : Nat) : nI n + (-1) = nI n - 1 := by rw [Int32.sub_eq_add_neg]
section CPLAN2
variable {D : va_G} {d : Nat} {Q : Int32 → gF → (Nat → Int64) → Prop} {Ql : Int64 → gF → (Nat → Int64) → Prop} {Qv : gF → (Nat → Int64) → Prop} {F F' : gF} {G : Nat → Int64} {T P Y : Nat} {dr : Nat → Nat} {pl : Nat → Nat → Option Nat} {mu : Nat → Nat → Bool} {lf : Nat → Option (Nat × Nat)} {kd sz : Nat → Nat} {ow : Nat → Option Nat} {dd rh : Nat → Nat → Option Nat} {fm ou : Nat → Nat}
theorem c_addStale1 (s : CSh T dr pl mu lf F) (v : CCo P Y kd sz ow dd rh fm ou F) (w : WCo T P Y kd sz ow dd rh fm ou) (pp : PPi T P Y pl kd dd F) (h576 : wt (raN P Y kd dd) T ≤ 576) {p : Nat} (hp : p < P) (hG : TBp T P Y pl kd dd p G) (h : ∀ G', TBp T P Y pl kd dd (p + 1) G' → Qv F G') : AMv D (d + 5) nPutIns_addPerson [.ref 29, .int (nI p), .long (lN (9 ^ (9 - p)))] F G Qv := by
  have hP := v.1
  refine ePutIns_addPerson (c_stale1 s v w hp ?_)
  rw [pp.2.2.2]
  have key : ∀ n G', n ≤ wt (raN P Y kd dd) T → (∀ x, x < n → G' x = lW (wV T (stB Y kd dd) (hhN pl) p (dg (raN P Y kd dd) x))) → (∀ x, n ≤ x → x < wt (raN P Y kd dd) T → G' x = lW (wV T (stB Y kd dd) (hhN pl) (p + 1) (dg (raN P Y kd dd) x))) → AWv D (d + 5) nPutIns_addPerson 15 [(0, .ref 29), (1, .int (nI p)), (2, .long (lN (9 ^ (9 - p)))), (4, .int (nI (maskB (stB Y kd dd p) T))), (5, .int (nI n - 1))] [] F G' Qv := by
    intro n
    induction n with
    | zero =>
      intro G' hn g1 g2
      exact bPutIns_addPerson_15 ⟨fun _ => h G' (fun x hx => g2 x (by omega) hx), fun e => absurd (by decide) e⟩
    | succ n ih =>
      intro G' hn g1 g2
      have hix := ix1 (n := 576) (c := n) (by omega) (by omega)
      rw [l1, pk_sub (show 1 ≤ n + 1 by omega), Nat.add_sub_cancel]
      refine bPutIns_addPerson_15 ⟨fun e => absurd e (by rw [← nI_0, nI_ltI (by omega) (by omega)]; omega), fun _ => ?_⟩
      refine c_leastWith1 s pp h576 (by omega) (by omega) (fun y hy => g1 y (by omega)) ⟨hix.1, ?_⟩
      rw [hix.2, nI_m1]
      refine ih _ (by omega) (fun x hx => ?_) (fun x hx hx2 => ?_)
      · rw [pk_uLn (by omega)]; exact g1 x (by omega)
      · by_cases e : x = n
        · rw [e, pk_uLs]
        · rw [pk_uLn e]; exact g2 x (by omega) hx2
  exact key _ G (Nat.le_refl _) hG (fun x hx hx2 => absurd hx2 (by omega))
theorem TB0 {G : Nat → Int64} (h576 : wt (raN P Y kd dd) T ≤ 576) : TBp T P Y pl kd dd 0 (vp_updL (gFl G 3486784401000000 576) 0 0) := by
  intro x hx
  rw [wV]
  by_cases e : x = 0
  · rw [e, pk_uLs, if_pos (zeroB_iff.mpr (fun t _ => dg_0 t))]
    rfl
  · rw [pk_uLn e, if_neg (fun z => e (dg_zero ra_pos T hx (fun t ht => zeroB_iff.mp z t ht)))]
    unfold gFl
    rw [if_pos (by omega)]
    rfl
theorem c_leastWorth1 (pp : PPi T P Y pl kd dd F) (h576 : wt (raN P Y kd dd) T ≤ 576) (hG : TBp T P Y pl kd dd P G) (h : Ql (lW (wV T (stB Y kd dd) (hhN pl) P (NVc T P Y kd dd))) F G) : AMl D (d + 2) nPutIns_leastWorth [.ref 29] F G Ql := by
  have hw := wt_pos (r := raN P Y kd dd) ra_pos T
  refine ePutIns_leastWorth (c_isWithin (fun _ _ => ⟨fun e => absurd e ne10, fun _ => ?_⟩) (fun z => absurd ?_ z))
  · have hix := ix1 (n := 576) (c := wt (raN P Y kd dd) T - 1) (by omega) (by omega)
    rw [pp.2.2.2, l1, pk_sub (by omega), hix.2, hG _ (by omega)]
    exact ⟨hix.1, h⟩
  · rw [pp.2.2.2, l1, l576, nI_leI (by omega) (by omega), nI_leI (by omega) (by omega)]
    omega
theorem c_find1 (s : CSh T dr pl mu lf F) (ws : WSh T dr pl mu lf) (v : CCo P Y kd sz ow dd rh fm ou F) (w : WCo T P Y kd sz ow dd rh fm ou)
    (h1 : ∀ F' G' x, Fr [29, 30, 31, 107] F F' → PPi T P Y pl kd dd F' → wt (raN P Y kd dd) T ≤ 576 → TBp T P Y pl kd dd P G' → wV T (stB Y kd dd) (hhN pl) P (NVc T P Y kd dd) = some x → Q 1 F' G')
    (h0 : ∀ F' G', Fr [29, 30, 31, 107] F F' → wV T (stB Y kd dd) (hhN pl) P (NVc T P Y kd dd) = none → Q 0 F' G') : AMi D (d + 6) nPutIns_find [.ref 29] F G Q := by
  have hT := s.1
  have hP := v.1
  have hsum : sumN (NVc T P Y kd dd) T = sumN (nuN P Y kd dd) T := by
    have : ∀ n, n ≤ T → sumN (NVc T P Y kd dd) n = sumN (nuN P Y kd dd) n := by
      intro n
      induction n with
      | zero => intro _; rfl
      | succ n ih => intro hn; rw [sumN, sumN, ih (by omega), NVc_lo n (by omega)]
    exact this T (Nat.le_refl T)
  refine ePutIns_find (c_readNeeds1 s ws v w (fun hs F' f1 pp => ⟨fun _ => ?_, fun e => absurd e (by decide)⟩) (fun hs F' f1 => ⟨fun e => absurd rfl e, fun _ => h0 F' G f1 ?_⟩))
  · have g := few (n := nuN P Y kd dd) nuN_le T hT
    have h576 : wt (raN P Y kd dd) T ≤ 576 := Nat.le_trans g.1 (few_end T hT _ (by omega) g.2)
    have s' := CSh_fr f1 (by decide) s
    have v' := CCo_fr f1 (by decide) v
    have lim := fun x h => wV_lim (T := T) (Y := Y) (pl := pl) (kd := kd) (dd := dd) hT (p := P) hP (c := NVc T P Y kd dd) (x := x) h
    have key : ∀ k p x1 G', p + k = P → (p < P → x1 = lN (9 ^ (9 - p))) → TBp T P Y pl kd dd p G' → AWi D (d + 6) nPutIns_find 32 [(0, .ref 29), (1, .long x1), (3, .int (nI p))] [] F' G' Q := by
      intro k
      induction k with
      | zero =>
        intro p x1 G' hk hx1 hG
        have hpP : p = P := by omega
        subst hpP
        refine bPutIns_find_32 (c_people v' ⟨fun _ => c_leastWorth1 pp h576 hG ?_, fun e => absurd (nI_le (Nat.le_refl p) (by omega)) e⟩)
        rw [lW_no lim]
        cases hw : wV T (stB Y kd dd) (hhN pl) p (NVc T p Y kd dd) with
        | none => exact ⟨fun _ => h0 F' G' f1 hw, fun e => absurd rfl e⟩
        | some x => exact ⟨fun e => (by cases e), fun _ => h1 F' G' x f1 pp h576 hG hw⟩
      | succ k ih =>
        intro p x1 G' hk hx1 hG
        refine bPutIns_find_32 (c_people v' ?_)
        rw [nI_leI (by omega) (by omega), hx1 (by omega)]
        refine ⟨fun e => absurd e (by omega), fun _ => c_addStale1 s' v' w pp h576 (by omega) hG (fun G2 hG2 => ?_)⟩
        rw [nI_1 p]
        refine ih (p + 1) _ G2 (by omega) (fun hp1 => ?_) hG2
        have e9 : (9 : Nat) ^ (9 - p) ≤ 9 ^ 9 := Nat.pow_le_pow_right (by omega) (by omega)
        have e99 : (9 : Nat) ^ 9 = 387420489 := by decide
        rw [show (9 : Int64) = lN 9 from rfl, pk_lDiv (by omega) (by omega) (by omega), show 9 - p = 9 - (p + 1) + 1 by omega, Nat.pow_succ, Nat.mul_div_cancel _ (by omega)]
    exact key P 0 _ _ (by omega) (fun _ => rfl) (TB0 h576)
  · cases hw : wV T (stB Y kd dd) (hhN pl) P (NVc T P Y kd dd) with
    | none => rfl
    | some x =>
      exfalso
      rw [wV_bV hP NVc_hi] at hw
      obtain ⟨hrs, dig, hm, _, _⟩ := (bm hT hP P _ (Nat.le_refl P)).2 x hw
      have := mV_sum _ _ _ hm
      omega
theorem c_hours1 (pp : PPi T P Y pl kd dd F) (h576 : wt (raN P Y kd dd) T ≤ 576) (hG : TBp T P Y pl kd dd P G) (hT : T ≤ 8) (hP : P ≤ 10) {x : Nat} (hx : wV T (stB Y kd dd) (hhN pl) P (NVc T P Y kd dd) = some x) (h : Q (nI (x / HR)) F G) : AMi D (d + 3) nPutIns_hours [.ref 29] F G Q := by
  have hl := wV_lim hT hP hx
  refine ePutIns_hours (c_leastWorth1 pp h576 hG ?_)
  rw [hx, hrL, show lW (some x) = lN x from rfl, pk_lDiv (by omega) (by decide) (by decide), lN_i]
  exact h
theorem c_trackOf1 (pp : PPi T P Y pl kd dd F) (h576 : wt (raN P Y kd dd) T ≤ 576) (hG : TBp T P Y pl kd dd P G) (hT : T ≤ 8) (hP : P ≤ 10) {x p : Nat} (hp : p < P) (hx : wV T (stB Y kd dd) (hhN pl) P (NVc T P Y kd dd) = some x) (h : Q (oN (if x % HR / 9 ^ (9 - p) % 9 = 8 then none else some (x % HR / 9 ^ (9 - p) % 9))) F G) : AMi D (d + 3) nPutIns_trackOf [.ref 29, .int (nI p)] F G Q := by
  have hl := wV_lim hT hP hx
  refine ePutIns_trackOf (c_leastWorth1 pp h576 hG ?_)
  have hmod : x % HR < HR := Nat.mod_lt _ (by decide)
  have hHR : HR = 3486784401 := rfl
  rw [hx, hrL, show lW (some x) = lN x from rfl, pk_lRem (by omega) (by decide) (by decide), nI_1 p]
  have key : ∀ k q y, q + k = 10 → y < HR → y / 9 ^ k % 9 = x % HR / 9 ^ (9 - p) % 9 → AWi D (d + 3) nPutIns_trackOf 14 [(0, .ref 29), (1, .int (nI p)), (2, .long (lN y)), (4, .int (nI q))] [] F G Q := by
    intro k
    induction k with
    | zero =>
      intro q y hq hy he
      have hm := Nat.mod_lt y (show 0 < 9 by omega)
      rw [Nat.pow_zero, Nat.div_one] at he
      rw [← he] at h
      refine bPutIns_trackOf_14 ⟨fun _ => ?_, fun e => absurd (by rw [l10, show q = 10 by omega]; decide) e⟩
      rw [show (9 : Int64) = lN 9 from rfl, pk_lRem (by omega) (by omega) (by omega), lN_i, l8, nI_eq (by omega) (by omega)]
      refine ⟨fun e => ?_, fun e => ?_⟩
      · rw [if_neg e] at h; exact h
      · rw [if_pos e] at h; exact h
    | succ k ih =>
      intro q y hq hy he
      refine bPutIns_trackOf_14 ⟨fun e => absurd e (by rw [l10, nI_leI (by omega) (by omega)]; omega), fun _ => ?_⟩
      rw [show (9 : Int64) = lN 9 from rfl, pk_lDiv (by omega) (by omega) (by omega), nI_1 q]
      refine ih (q + 1) (y / 9) (by omega) (Nat.lt_of_le_of_lt (Nat.div_le_self _ _) hy) ?_
      rw [Nat.div_div_eq_div_mul, Nat.mul_comm, ← Nat.pow_succ]
      exact he
  exact key (9 - p) (p + 1) _ (by omega) hmod rfl
end CPLAN2
