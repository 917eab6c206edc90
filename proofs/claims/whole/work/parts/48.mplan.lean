/-! PLANS, the model's side -/
abbrev r3 : Nat → Nat := fun _ => 3
theorem r3_pos (t : Nat) : 0 < r3 t := by unfold r3; omega
theorem wt3_le {t : Nat} (h : t ≤ 8) : wt r3 t ≤ 6561 := Nat.le_trans (wt_le r3_pos h) (by decide)
theorem firstB_up {p : Nat → Bool} {i j : Nat} (h : firstB p i = some j) : ∀ n, i ≤ n → firstB p n = some j
  | 0, hn => by rw [show i = 0 by omega] at h; exact h
  | n + 1, hn => by
    by_cases e : i = n + 1
    · rw [← e]; exact h
    · rw [firstB, firstB_up h n (by omega)]
def MPw (F : gF) : Prop := ∀ t, t < 9 → F 58 t = nI (wt r3 t)
def MTb (T P : Nat) (st : Nat → Nat → Bool) (hh : Nat → Nat) (p : Nat) (F : gF) : Prop := ∀ q x, p ≤ q → q ≤ P → x < wt r3 T → F 57 (6561 * q + x) = oM (mV T P st hh (P - q) (dg r3 x))
theorem jx57 {q x : Nat} (hq : q ≤ 10) (hx : x < 6561) : vp_in (6561 * nI q + nI x) 72171 ∧ (6561 * nI q + nI x).toNatClampNeg = 6561 * q + x := by
  rw [l6561, pk_mul, nI_add]
  exact ix1 (by omega) (by omega)
theorem mV_lim {T P : Nat} {st : Nat → Nat → Bool} {pl : Nat → Nat → Option Nat} {k : Nat} {c : gVec} (hk : k ≤ 10) {v : Nat} (h : mV T P st (hhN pl) k c = some v) : v ≤ 80 := by
  have := mV_le (H := 8) hhN_le k c v h
  omega
section MPLAN
variable {D : va_G} {d : Nat} {Q : Int32 → gF → (Nat → Int64) → Prop} {Qv : gF → (Nat → Int64) → Prop} {F F' : gF} {G : Nat → Int64} {T P Y : Nat} {dr : Nat → Nat} {pl : Nat → Nat → Option Nat} {mu : Nat → Nat → Bool} {lf : Nat → Option (Nat × Nat)} {kd sz : Nat → Nat} {ow : Nat → Option Nat} {dd rh : Nat → Nat → Option Nat} {fm ou : Nat → Nat}
theorem m_hours1 (s : MSh T dr pl mu lf F) (ws : WSh T dr pl mu lf) {t : Nat} (ht : t < T) (h : Q (nI (hhN pl t)) F G) : AMi D (d + 2) nModel_hours [.ref 39, .int (nI t)] F G Q := by
  refine eModel_hours ?_
  have key : ∀ k i, i + k = 30 → AWi D (d + 2) nModel_hours 4 [(0, .ref 39), (1, .int (nI t)), (2, .int (nI (cntB (inB pl t) i))), (3, .int (nI i))] [] F G Q := by
    intro k
    induction k with
    | zero =>
      intro i hi
      have := cntB_le (inB pl t) i
      refine bModel_hours_4 ⟨fun _ => ?_, fun e => absurd (by rw [show i = 30 by omega]; decide) e⟩
      rw [l4, pk_div (by omega) (by omega) (by omega), nI_1 (cntB (inB pl t) i / 4), show i = 30 by omega]
      exact h
    | succ k ih =>
      intro i hi
      have hn := ih (i + 1) (by omega)
      rw [← nI_1 i, cntB, ← nI_add] at hn
      refine bModel_hours_4 ⟨fun e => absurd e (by rw [l30, nI_leI (by omega) (by omega)]; omega), fun _ => m_is1 s ws ht (by omega) ⟨fun e => ?_, fun e => ?_⟩⟩
      · rw [(bI_0 _).mp e] at hn; exact hn
      · rw [(bI_n0 _).mp e] at hn; exact hn
  exact key 30 0 (by omega)
theorem m_mayPut1 (v : MCo P Y kd sz ow dd rh fm ou F) (w : WCo T P Y kd sz ow dd rh fm ou) {p t : Nat} (hp : p < P) (ht : t < 8) (h : Q (bI (stB Y kd dd p t)) F G) : AMi D (d + 3) nModel_mayPut [.ref 39, .int (nI p), .int (nI t)] F G Q := by
  unfold stB at h
  refine eModel_mayPut (m_knows1 v w hp ht ⟨fun e => ?_, fun e => m_isFresh1 v w hp ht ⟨fun e2 => ?_, fun e2 => ?_⟩⟩)
  · rw [(bI_0 _).mp e] at h; exact h
  · rw [(bI_n0 _).mp e, (bI_n0 _).mp e2] at h; exact h
  · rw [(bI_n0 _).mp e, (bI_0 _).mp e2] at h; exact h
theorem m_behind1 (m : MPw F) {x t : Nat} (ht : t < 8) (hx : x < 2 ^ 31) (h : ∀ x', dg r3 x' = decV (dg r3 x) t → x' ≤ x → Q (nI x') F G) : AMi D (d + 1) nModel_behind [.ref 39, .int (nI x), .int (nI t)] F G Q := by
  have hix := ix1 (n := 9) (c := t) (by omega) (by omega)
  have hw := wt_pos r3_pos t
  have hwl := wt3_le (t := t) (by omega)
  have hq : x / wt r3 t < 2 ^ 31 := Nat.lt_of_le_of_lt (Nat.div_le_self _ _) hx
  have hdg : x / wt r3 t % 3 = dg r3 x t := rfl
  have hm3 := Nat.mod_lt (x / wt r3 t) (show 0 < 3 by omega)
  refine eModel_behind ?_
  rw [hix.2, m t (by omega), pk_div (by omega) hw (by omega), l3, pk_rem hq (by omega) (by omega), ← nI_0, nI_eq (by omega) (by omega), nI_leI (by omega) (by omega)]
  refine ⟨hix.1, by omega, fun e => h x ?_ (Nat.le_refl x), fun e => ⟨hix.1, ?_⟩⟩
  · rw [dec_0 (by omega)]
  · have hpos : 0 < dg r3 x t := by omega
    have hle : wt r3 t ≤ x := by
      rcases Nat.lt_or_ge x (wt r3 t) with z | z
      · rw [Nat.div_eq_of_lt z, Nat.zero_mod] at e; omega
      · exact z
    rw [pk_sub hle]
    exact h _ (dg_dec r3_pos hpos) (by omega)
/-- one better way -/
theorem m_fp234 (s : MSh T dr pl mu lf F) (ws : WSh T dr pl mu lf) {x1 x2 x3 x4 : Int32} {t : Nat} (ht : t < T) {a b : Option Nat} (ha : ∀ k, a = some k → k < 2 ^ 30) (hb : ∀ k, b = some k → k < 2 ^ 29) (h : AWi D (d + 3) nModel_findPlan 182 [(0, .ref 39), (1, .int x1), (2, .int x2), (3, .int x3), (4, .int x4), (5, .int (oM (ominO a (addO b (hhN pl t))))), (6, .int (nI t + 1))] [] F G Q) : AWi D (d + 3) nModel_findPlan 234 [(0, .ref 39), (1, .int x1), (2, .int x2), (3, .int x3), (4, .int x4), (5, .int (oM a)), (6, .int (nI t))] [.int (oM b)] F G Q := by
  have hh8 := hhN_le (pl := pl) t
  cases b with
  | none =>
    have e2 : ∀ o : Option Nat, ominO o none = o := fun o => by cases o <;> rfl
    rw [show addO none (hhN pl t) = none from rfl, e2] at h
    exact bModel_findPlan_234 ⟨fun _ => h, fun e => absurd (by decide) e⟩
  | some b =>
    have hb := hb b rfl
    refine bModel_findPlan_234 ⟨fun e => absurd e (nI_pos (by omega)), fun _ => ?_⟩
    have set : ominO a (addO (some b) (hhN pl t)) = some (b + hhN pl t) → AWi D (d + 3) nModel_findPlan 260 [(0, .ref 39), (1, .int x1), (2, .int x2), (3, .int x3), (4, .int x4), (5, .int (oM a)), (6, .int (nI t)), (7, .int (oM (some b)))] [] F G Q := by
      intro e
      rw [e] at h
      refine bModel_findPlan_260 (m_hours1 s ws ht ?_)
      rw [oM_some, nI_add]
      exact h
    cases a with
    | none => exact ⟨fun _ => set rfl, fun e => absurd (by decide) e⟩
    | some a =>
      have ha := ha a rfl
      refine ⟨fun e => absurd e (nI_pos (by omega)), fun _ => m_hours1 s ws ht ?_⟩
      rw [oM_some, oM_some, nI_add, nI_leI (by omega) (by omega)]
      have hdef : ominO (some a) (addO (some b) (hhN pl t)) = some (if b + hhN pl t < a then b + hhN pl t else a) := rfl
      refine ⟨fun e => ?_, fun e => set ?_⟩
      · rw [hdef, if_neg (by omega)] at h; exact h
      · rw [hdef, if_pos (by omega)]
/-- one place of the table -/
theorem m_fp182 (s : MSh T dr pl mu lf F) (ws : WSh T dr pl mu lf) (v : MCo P Y kd sz ow dd rh fm ou F) (w : WCo T P Y kd sz ow dd rh fm ou) (mp : MPw F) {x1 x2 : Int32} {q x : Nat} (hq : q < P) (hx : x < wt r3 T) (mt : MTb T P (stB Y kd dd) (hhN pl) (q + 1) F) (h : AWi D (d + 4) nModel_findPlan 135 [(0, .ref 39), (1, .int x1), (2, .int x2), (3, .int (nI q)), (4, .int (nI x + 1))] [] (up F 57 (6561 * q + x) (oM (mV T P (stB Y kd dd) (hhN pl) (P - q) (dg r3 x)))) G Q) : AWi D (d + 4) nModel_findPlan 182 [(0, .ref 39), (1, .int x1), (2, .int x2), (3, .int (nI q)), (4, .int (nI x)), (5, .int (oM (mV T P (stB Y kd dd) (hhN pl) (P - (q + 1)) (dg r3 x)))), (6, .int 0)] [] F G Q := by
  have hP := v.1
  have hT := s.1
  have h6 := wt3_le (t := T) hT
  obtain ⟨k, hk⟩ : ∃ k, k = P - (q + 1) := ⟨_, rfl⟩
  have hj := jx57 (q := q) (x := x) (by omega) (by omega)
  have key : ∀ n i, i + n = T → AWi D (d + 4) nModel_findPlan 182 [(0, .ref 39), (1, .int x1), (2, .int x2), (3, .int (nI q)), (4, .int (nI x)), (5, .int (oM (optN (mV T P (stB Y kd dd) (hhN pl) k (dg r3 x)) (fun t => if stB Y kd dd (P - (k + 1)) t then addO (mV T P (stB Y kd dd) (hhN pl) k (decV (dg r3 x) t)) (hhN pl t) else none) i))), (6, .int (nI i))] [] F G Q := by
    intro n
    induction n with
    | zero =>
      intro i hi
      refine bModel_findPlan_182 ⟨fun _ => ?_, fun e => absurd (by rw [s.2.1, nI_leI (by omega) (by omega)]; omega) e⟩
      rw [hj.2, show i = T by omega]
      rw [show P - q = k + 1 by omega, mV] at h
      exact ⟨hj.1, h⟩
    | succ n ih =>
      intro i hi
      have hn := ih (i + 1) (by omega)
      rw [← nI_1 i, optN, show P - (k + 1) = q by omega] at hn
      rw [show P - (k + 1) = q by omega]
      have lima : ∀ z, optN (mV T P (stB Y kd dd) (hhN pl) k (dg r3 x)) (fun t => if stB Y kd dd q t then addO (mV T P (stB Y kd dd) (hhN pl) k (decV (dg r3 x) t)) (hhN pl t) else none) i = some z → z < 2 ^ 30 := by
        intro z hz
        rcases opt_att i hz with e | ⟨t, ht, e⟩
        · have := mV_lim (by omega) e; omega
        · split at e
          · obtain ⟨y, hy, e2⟩ := addO_some e
            have := mV_lim (by omega) hy
            have := hhN_le (pl := pl) t
            omega
          · cases e
      refine bModel_findPlan_182 ⟨fun e => absurd e (by rw [s.2.1, nI_leI (by omega) (by omega)]; omega), fun _ => ⟨fun e => absurd e (by rw [v.2.1, nI_leI (by omega) (by omega)]; omega), fun _ => ?_⟩⟩
      refine m_mayPut1 v w hq (by omega) ⟨fun e => ?_, fun e => m_behind1 mp (by omega) (by omega) (fun x' hx' hle => ?_)⟩
      · rw [(bI_0 _).mp e, if_neg (by decide)] at hn
        exact m_fp234 s ws (by omega) (b := none) lima (fun k hk => by cases hk) hn
      · have hj2 := jx57 (q := q + 1) (x := x') (by omega) (by omega)
        rw [(bI_n0 _).mp e, if_pos rfl] at hn
        rw [nI_1 q, hj2.2, mt (q + 1) x' (Nat.le_refl _) (by omega) (by omega), hx', ← hk]
        exact ⟨hj2.1, m_fp234 s ws (by omega) lima (fun z hz => by have := mV_lim (by omega) hz; omega) hn⟩
  rw [← hk]
  exact key T 0 (by omega)
theorem m_fpTab (s : MSh T dr pl mu lf F) (ws : WSh T dr pl mu lf) (v : MCo P Y kd sz ow dd rh fm ou F) (w : WCo T P Y kd sz ow dd rh fm ou) (mp : MPw F) {x2 : Int32} (h : ∀ F', Fr [57] F F' → MTb T P (stB Y kd dd) (hhN pl) 0 F' → Q x2 F' G) : AWi D (d + 4) nModel_findPlan 128 [(0, .ref 39), (1, .int (nI (wt r3 T))), (2, .int x2), (3, .int (nI P))] [] F G Q := by
  have hP := v.1
  have hT := s.1
  have h6 := wt3_le (t := T) hT
  have key : ∀ n F', n ≤ P + 1 → Fr [57] F F' → MTb T P (stB Y kd dd) (hhN pl) n F' → AWi D (d + 4) nModel_findPlan 128 [(0, .ref 39), (1, .int (nI (wt r3 T))), (2, .int x2), (3, .int (nI n - 1))] [] F' G Q := by
    intro n
    induction n with
    | zero =>
      intro F' hn f1 f2
      exact bModel_findPlan_128 ⟨fun _ => h F' f1 f2, fun e => absurd (by decide) e⟩
    | succ q ih =>
      intro F' hn f1 f2
      rw [l1, pk_sub (show 1 ≤ q + 1 by omega), Nat.add_sub_cancel]
      refine bModel_findPlan_128 ⟨fun e => absurd e (nI_pos (by omega)), fun _ => ?_⟩
      have row : ∀ m x F', x + m = wt r3 T → Fr [57] F F' → MTb T P (stB Y kd dd) (hhN pl) (q + 1) F' → (∀ y, y < x → F' 57 (6561 * q + y) = oM (mV T P (stB Y kd dd) (hhN pl) (P - q) (dg r3 y))) → AWi D (d + 4) nModel_findPlan 135 [(0, .ref 39), (1, .int (nI (wt r3 T))), (2, .int x2), (3, .int (nI q)), (4, .int (nI x))] [] F' G Q := by
        intro m
        induction m with
        | zero =>
          intro x F' hx f1 f2 f3
          refine bModel_findPlan_135 ⟨fun _ => ?_, fun e => absurd (by rw [nI_leI (by omega) (by omega)]; omega) e⟩
          rw [nI_m1]
          refine ih F' (by omega) f1 (fun q' y hq hq2 hy => ?_)
          by_cases e : q' = q
          · rw [e]; exact f3 y (by omega)
          · exact f2 q' y (by omega) hq2 hy
        | succ m ihm =>
          intro x F' hx f1 f2 f3
          have s' := MSh_fr f1 (by decide) s
          have v' := MCo_fr f1 (by decide) v
          have mp' : MPw F' := fun t ht => by rw [f1 58 (by decide)]; exact mp t ht
          have next : AWi D (d + 4) nModel_findPlan 135 [(0, .ref 39), (1, .int (nI (wt r3 T))), (2, .int x2), (3, .int (nI q)), (4, .int (nI x + 1))] [] (up F' 57 (6561 * q + x) (oM (mV T P (stB Y kd dd) (hhN pl) (P - q) (dg r3 x)))) G Q := by
            rw [nI_1 x]
            refine ihm (x + 1) _ (by omega) (f1.up (by decide)) (fun q' y hq hq2 hy => ?_) (fun y hy => ?_)
            · rw [up_i, if_pos rfl, if_neg (by omega)]
              exact f2 q' y hq hq2 hy
            · rw [up_i, if_pos rfl]
              by_cases e : y = x
              · rw [if_pos (by omega), e]
              · rw [if_neg (by omega)]
                exact f3 y (by omega)
          refine bModel_findPlan_135 ⟨fun e => absurd e (by rw [nI_leI (by omega) (by omega)]; omega), fun _ => ?_⟩
          rw [v'.2.1, nI_eq (by omega) (by omega)]
          refine ⟨fun e => ?_, fun e => ?_⟩
          · have hj2 := jx57 (q := q + 1) (x := x) (by omega) (by omega)
            rw [nI_1 q, hj2.2, f2 (q + 1) x (Nat.le_refl _) (by omega) (by omega)]
            exact ⟨hj2.1, m_fp182 s' ws v' w mp' (by omega) (by omega) f2 next⟩
          · have hj := jx57 (q := q) (x := x) (by omega) (by omega)
            have st : ∀ x5, x5 = oM (mV T P (stB Y kd dd) (hhN pl) (P - q) (dg r3 x)) → AWi D (d + 4) nModel_findPlan 182 [(0, .ref 39), (1, .int (nI (wt r3 T))), (2, .int x2), (3, .int (nI q)), (4, .int (nI x)), (5, .int x5), (6, .int 0)] [] F' G Q := by
              intro x5 e5
              refine bModel_findPlan_182 ⟨fun _ => ?_, fun _ => ⟨fun _ => ?_, fun e2 => absurd (by rw [v'.2.1, nI_leI (by omega) (by omega)]; omega) e2⟩⟩
              · rw [hj.2, e5]; exact ⟨hj.1, next⟩
              · rw [hj.2, e5]; exact ⟨hj.1, next⟩
            have m0 : mV T P (stB Y kd dd) (hhN pl) (P - q) (dg r3 x) = if x = 0 then some 0 else none := by
              rw [show P - q = 0 by omega, mV]
              by_cases e0 : x = 0
              · rw [if_pos e0, e0, if_pos (zeroB_iff.mpr (fun t _ => dg_0 t))]
              · rw [if_neg e0, if_neg (fun z => e0 (dg_zero r3_pos T (by omega) (fun t ht => zeroB_iff.mp z t ht)))]
            refine ⟨fun e0 => st _ ?_, fun e0 => st _ ?_⟩
            · rw [m0, if_neg (fun z => e0 (by rw [z]; rfl))]; rfl
            · rw [← nI_0, nI_eq (by omega) (by omega)] at e0
              rw [m0, if_pos e0]; rfl
      exact row (wt r3 T) 0 F' (by omega) f1 f2 (fun y hy => absurd hy (by omega))
  have := key (P + 1) F (Nat.le_refl _) Fr.rf (fun q x hq hq2 hx => absurd hq (by omega))
  rw [l1, pk_sub (show 1 ≤ P + 1 by omega), Nat.add_sub_cancel] at this
  exact this
def fstN (T P Y : Nat) (kd : Nat → Nat) (dd : Nat → Nat → Option Nat) : Nat := enc r3 (nuN P Y kd dd) T
theorem nu_r3 (t : Nat) : nuN P Y kd dd t < r3 t := by have := nuN_le (P := P) (Y := Y) (kd := kd) (dd := dd) t; unfold r3; omega
theorem fst_dg : dg r3 (fstN T P Y kd dd) = NVc T P Y kd dd := by
  funext t
  by_cases h : t < T
  · rw [NVc_lo t h]
    exact enc_dg r3_pos nu_r3 T h
  · rw [NVc_hi t (by omega)]
    exact dg_hi r3_pos (enc_lt r3_pos nu_r3 T) (by omega)
theorem m_findPlan1 (s : MSh T dr pl mu lf F) (ws : WSh T dr pl mu lf) (v : MCo P Y kd sz ow dd rh fm ou F) (w : WCo T P Y kd sz ow dd rh fm ou) (h : ∀ F', Fr [57, 58] F F' → MPw F' → MTb T P (stB Y kd dd) (hhN pl) 0 F' → Q (nI (fstN T P Y kd dd)) F' G) : AMi D (d + 4) nModel_findPlan [.ref 39] F G Q := by
  have hP := v.1
  have hT := s.1
  refine eModel_findPlan ?_
  have pw : ∀ n i F', i + n = 8 → Fr [58] F F' → (∀ t, t ≤ i → F' 58 t = nI (wt r3 t)) → AWi D (d + 4) nModel_findPlan 9 [(0, .ref 39), (1, .int (nI i))] [] F' G Q := by
    intro n
    induction n with
    | zero =>
      intro i F' hi f1 f2
      have s' := MSh_fr f1 (by decide) s
      have v' := MCo_fr f1 (by decide) v
      have mp' : MPw F' := fun t ht => f2 t (by omega)
      refine bModel_findPlan_9 ⟨fun _ => ?_, fun e => absurd (by rw [show i = 8 by omega]; decide) e⟩
      have hx := ix1 (n := 9) (c := T) (by omega) (by omega)
      rw [s'.2.1, hx.2, mp' T (by omega)]
      refine ⟨hx.1, ?_⟩
      have lp : ∀ n i, i + n = T → AWi D (d + 4) nModel_findPlan 51 [(0, .ref 39), (1, .int (nI (wt r3 T))), (2, .int (nI (enc r3 (nuN P Y kd dd) i))), (3, .int (nI i))] [] F' G Q := by
        intro n
        induction n with
        | zero =>
          intro i hi
          refine bModel_findPlan_51 ⟨fun _ => ?_, fun e => absurd (by rw [s'.2.1, nI_leI (by omega) (by omega)]; omega) e⟩
          rw [v'.2.1, show i = T by omega]
          refine m_fpTab s' ws v' w mp' (fun F2 f3 mt => h F2 ((f1.tr f3).sub (by decide)) (fun t ht => by rw [f3 58 (by decide)]; exact mp' t ht) mt)
        | succ n ih =>
          intro i hi
          have hn := ih (i + 1) (by omega)
          rw [← nI_1 i, enc] at hn
          have hxi := ix1 (n := 9) (c := i) (by omega) (by omega)
          refine bModel_findPlan_51 ⟨fun e => absurd e (by rw [s'.2.1, nI_leI (by omega) (by omega)]; omega), fun _ => ?_⟩
          have lq : ∀ n j, j + n = P → AWi D (d + 4) nModel_findPlan 65 [(0, .ref 39), (1, .int (nI (wt r3 T))), (2, .int (nI (enc r3 (nuN P Y kd dd) i))), (3, .int (nI i)), (4, .int (nI (2 - cntB (fun p => freshB Y kd dd p i) j))), (5, .int (nI j))] [] F' G Q := by
            intro n
            induction n with
            | zero =>
              intro j hj
              refine bModel_findPlan_65 ⟨fun _ => ⟨hxi.1, ?_⟩, fun e => absurd (by rw [v'.2.1, nI_leI (by omega) (by omega)]; omega) e⟩
              rw [hxi.2, mp' i (by omega), pk_mul, nI_add, show j = P by omega]
              exact hn
            | succ n ihq =>
              intro j hj
              have hm := ihq (j + 1) (by omega)
              rw [← nI_1 j, cntB] at hm
              have z0 : ∀ a : Int32, a - 0 = a := fun a => by rw [Int32.sub_zero]
              refine bModel_findPlan_65 ⟨fun e => absurd e (by rw [v'.2.1, nI_leI (by omega) (by omega)]; omega), fun _ => m_isFresh1 v' w (by omega) (by omega) ⟨fun e => ?_, fun e => ?_⟩⟩
              · rw [(bI_0 _).mp e] at hm; rw [z0]; exact hm
              · rw [(bI_n0 _).mp e, if_pos rfl] at hm
                rw [← nI_0, nI_leI (by omega) (by omega), nI_0]
                refine ⟨fun e2 => ?_, fun e2 => ?_⟩
                · rw [z0, show 2 - cntB (fun p => freshB Y kd dd p i) j = 2 - (cntB (fun p => freshB Y kd dd p i) j + 1) by omega]; exact hm
                · rw [l1, pk_sub (by omega), show 2 - cntB (fun p => freshB Y kd dd p i) j - 1 = 2 - (cntB (fun p => freshB Y kd dd p i) j + 1) by omega]; exact hm
          exact lq P 0 (by omega)
      exact lp T 0 (by omega)
    | succ n ih =>
      intro i F' hi f1 f2
      have hx := ix1 (n := 9) (c := i) (by omega) (by omega)
      have hx1 := ix1 (n := 9) (c := i + 1) (by omega) (by omega)
      refine bModel_findPlan_9 ⟨fun e => absurd e (by rw [l8, nI_leI (by omega) (by omega)]; omega), fun _ => ?_⟩
      rw [nI_1 i, hx.2, hx1.2, f2 i (Nat.le_refl i), l3, pk_mul]
      refine ⟨hx.1, hx1.1, ih (i + 1) _ (by omega) (f1.up (by decide)) (fun t ht => ?_)⟩
      rw [up_i, if_pos rfl]
      by_cases e : t = i + 1
      · rw [if_pos e, e, wt, Nat.mul_comm]
      · rw [if_neg e]; exact f2 t (by omega)
  exact pw 8 0 _ (by omega) (Fr.rf.up (by decide)) (fun t ht => by rw [show t = 0 by omega]; rw [up_i, if_pos rfl]; exact if_pos rfl)
end MPLAN
