/-! PLANS, the class's side -/
def nuN (P Y : Nat) (kd : Nat → Nat) (dd : Nat → Nat → Option Nat) (t : Nat) : Nat := 2 - cntB (fun p => freshB Y kd dd p t) P
def hhN (pl : Nat → Nat → Option Nat) (t : Nat) : Nat := cntB (inB pl t) 30 / 4 + 1
def stB (Y : Nat) (kd : Nat → Nat) (dd : Nat → Nat → Option Nat) (p t : Nat) : Bool := (dd p t).isSome && !freshB Y kd dd p t
abbrev raN (P Y : Nat) (kd : Nat → Nat) (dd : Nat → Nat → Option Nat) : Nat → Nat := fun t => nuN P Y kd dd t + 1
def lW (o : Option Nat) : Int64 := match o with
  | none => 3486784401000000
  | some x => lN x
theorem ra_pos {P Y : Nat} {kd : Nat → Nat} {dd : Nat → Nat → Option Nat} (t : Nat) : 0 < raN P Y kd dd t := by unfold raN; omega
theorem nuN_le {P Y : Nat} {kd : Nat → Nat} {dd : Nat → Nat → Option Nat} (t : Nat) : nuN P Y kd dd t ≤ 2 := by unfold nuN; omega
theorem hhN_le {pl : Nat → Nat → Option Nat} (t : Nat) : hhN pl t ≤ 8 := by
  have := cntB_le (inB pl t) 30
  unfold hhN
  omega
theorem hhN_pos {pl : Nat → Nat → Option Nat} (t : Nat) : 0 < hhN pl t := by unfold hhN; omega
theorem nu_max : ∀ n, n < 11 → (if (0 : Int32) < (2 - nI n) then (2 - nI n) else 0) = nI (2 - n) := by decide +kernel
theorem lN_lim {x y : Nat} (hx : x < 2 ^ 62) (hy : y < 2 ^ 62) : lN x < lN y ↔ x < y := by
  rw [Int64.lt_iff_toInt_lt, show (lN x).toInt = (x : Int) from i64N (by omega), show (lN y).toInt = (y : Int) from i64N (by omega)]
  omega
theorem lN_inj2 {x y : Nat} (hx : x < 2 ^ 62) (hy : y < 2 ^ 62) (h : lN x = lN y) : x = y := by
  have h1 : (lN x).toInt = (x : Int) := i64N (by omega)
  have h2 : (lN y).toInt = (y : Int) := i64N (by omega)
  rw [h] at h1
  omega
theorem nw : (3486784401000000 : Int64) = lN 3486784401000000 := rfl
theorem hrL : (3486784401 : Int64) = lN HR := rfl
theorem lW_no {o : Option Nat} (ho : ∀ x, o = some x → x < 3486784401000000) : lg_cmp (lW o) 3486784401000000 = 0 ↔ o = none := by
  rw [lg_cmp_eq]
  cases o with
  | none => exact ⟨fun _ => rfl, fun _ => rfl⟩
  | some x =>
    have := ho x rfl
    refine ⟨fun e => ?_, fun e => by cases e⟩
    have e : lN x = lN 3486784401000000 := e
    have := lN_inj2 (by omega) (by omega) e
    omega
theorem lW_min {a b : Option Nat} (ha : ∀ x, a = some x → x < 3486784401000000) (hb : ∀ x, b = some x → x < 3486784401000000) : (if lW b < lW a then lW b else lW a) = lW (ominO a b) := by
  cases a with
  | none =>
    cases b with
    | none => rw [if_neg (by show ¬ ((3486784401000000 : Int64) < 3486784401000000); decide)]; rfl
    | some y =>
      have := hb y rfl
      rw [if_pos (by show lN y < (3486784401000000 : Int64); rw [nw, lN_lim (by omega) (by omega)]; omega)]; rfl
  | some x =>
    have hx := ha x rfl
    cases b with
    | none => rw [if_neg (by show ¬ ((3486784401000000 : Int64) < lN x); rw [nw, lN_lim (by omega) (by omega)]; omega)]; rfl
    | some y =>
      have := hb y rfl
      have e : lW (some y) < lW (some x) ↔ y < x := lN_lim (by omega) (by omega)
      show _ = lN (if y < x then y else x)
      by_cases h : y < x
      · rw [if_pos (e.mpr h), if_pos h]; rfl
      · rw [if_neg (fun z => h (e.mp z)), if_neg h]; rfl
section CPLAN
variable {D : va_G} {d : Nat} {Q : Int32 → gF → (Nat → Int64) → Prop} {Ql : Int64 → gF → (Nat → Int64) → Prop} {Qv : gF → (Nat → Int64) → Prop} {F F' : gF} {G : Nat → Int64} {T P Y : Nat} {dr : Nat → Nat} {pl : Nat → Nat → Option Nat} {mu : Nat → Nat → Bool} {lf : Nat → Option (Nat × Nat)} {kd sz : Nat → Nat} {ow : Nat → Option Nat} {dd rh : Nat → Nat → Option Nat} {fm ou : Nat → Nat}
def PPi (T P Y : Nat) (pl : Nat → Nat → Option Nat) (kd : Nat → Nat) (dd : Nat → Nat → Option Nat) (F : gF) : Prop := (∀ t, t < T → F 29 t = nI (nuN P Y kd dd t)) ∧ (∀ t, t < T → F 30 t = nI (wt (raN P Y kd dd) t)) ∧ (∀ t, t < T → F 31 t = nI (hhN pl t)) ∧ F 107 0 = nI (wt (raN P Y kd dd) T)
theorem c_countFresh1 (v : CCo P Y kd sz ow dd rh fm ou F) (w : WCo T P Y kd sz ow dd rh fm ou) {t : Nat} (ht : t < 8) (h : Q (nI (cntB (fun p => freshB Y kd dd p t) P)) F G) : AMi D (d + 4) nPutIns_countFresh [.ref 29, .int (nI t)] F G Q := by
  have hP := v.1
  refine ePutIns_countFresh ?_
  have key : ∀ k i, i + k = P → AWi D (d + 4) nPutIns_countFresh 4 [(0, .ref 29), (1, .int (nI t)), (2, .int (nI (cntB (fun p => freshB Y kd dd p t) i))), (3, .int (nI i))] [] F G Q := by
    intro k
    induction k with
    | zero =>
      intro i hi
      refine bPutIns_countFresh_4 (c_people v ?_)
      rw [nI_leI (by omega) (by omega), show i = P by omega]
      exact ⟨fun _ => h, fun e => absurd (by omega) e⟩
    | succ k ih =>
      intro i hi
      have hn := ih (i + 1) (by omega)
      rw [← nI_1 i, cntB, ← nI_add] at hn
      refine bPutIns_countFresh_4 (c_people v ?_)
      rw [nI_leI (by omega) (by omega)]
      refine ⟨fun e => absurd e (by omega), fun _ => c_isFresh1 v w (by omega) ht ⟨fun e => ?_, fun e => ?_⟩⟩
      · rw [(bI_0 _).mp e] at hn; exact hn
      · rw [(bI_n0 _).mp e] at hn; exact hn
  exact key P 0 (by omega)
theorem c_readNeeds1 (s : CSh T dr pl mu lf F) (ws : WSh T dr pl mu lf) (v : CCo P Y kd sz ow dd rh fm ou F) (w : WCo T P Y kd sz ow dd rh fm ou) (h1 : sumN (nuN P Y kd dd) T ≤ P → ∀ F', Fr [29, 30, 31, 107] F F' → PPi T P Y pl kd dd F' → Q 1 F' G) (h0 : ¬ sumN (nuN P Y kd dd) T ≤ P → ∀ F', Fr [29, 30, 31, 107] F F' → Q 0 F' G) : AMi D (d + 5) nPutIns_readNeeds [.ref 29] F G Q := by
  have hT := s.1
  have hP := v.1
  refine ePutIns_readNeeds ?_
  have key : ∀ k i F', i + k = T → Fr [29, 30, 31, 107] F F' → (∀ t, t < i → F' 29 t = nI (nuN P Y kd dd t) ∧ F' 30 t = nI (wt (raN P Y kd dd) t) ∧ F' 31 t = nI (hhN pl t)) → F' 107 0 = nI (wt (raN P Y kd dd) i) → AWi D (d + 5) nPutIns_readNeeds 9 [(0, .ref 29), (1, .int (nI (sumN (nuN P Y kd dd) i))), (2, .int (nI i))] [] F' G Q := by
    intro k
    induction k with
    | zero =>
      intro i F' hi f1 f2 f3
      have hiT : i = T := by omega
      subst hiT
      obtain ⟨g1, g2⟩ := few (n := nuN P Y kd dd) nuN_le i hT
      refine bPutIns_readNeeds_9 (c_tracks (CSh_fr f1 (by decide) s) ⟨fun _ => c_people (CCo_fr f1 (by decide) v) ?_, fun e => absurd (nI_le (Nat.le_refl i) (by omega)) e⟩)
      rw [nI_ltI (by omega) (by omega)]
      refine ⟨fun e => h0 (by omega) F' f1, fun e => ?_⟩
      have g3 := few_end i hT _ (show sumN (nuN P Y kd dd) i ≤ 10 by omega) g2
      have g4 : wt (raN P Y kd dd) i ≤ 576 := Nat.le_trans g1 g3
      rw [f3, l576, nI_ltI (by omega) (by omega)]
      exact ⟨fun e2 => absurd e2 (by omega), fun _ => h1 (by omega) F' f1 ⟨fun t ht => (f2 t ht).1, fun t ht => (f2 t ht).2.1, fun t ht => (f2 t ht).2.2, f3⟩⟩
    | succ k ih =>
      intro i F' hi f1 f2 f3
      have hix := ix1 (n := 8) (c := i) (by omega) (by omega)
      have s' := CSh_fr f1 (by decide) s
      refine bPutIns_readNeeds_9 (c_tracks s' ?_)
      rw [nI_leI (by omega) (by omega)]
      refine ⟨fun e => absurd e (by omega), fun _ => c_countFresh1 (CCo_fr f1 (by decide) v) w (by omega) ⟨hix.1, ?_⟩⟩
      have hcf := cntB_le (fun p => freshB Y kd dd p i) P
      rw [nu_max _ (by omega), hix.2]
      have fA : Fr [29, 30, 31, 107] F (up F' 29 i (nI (2 - cntB (fun p => freshB Y kd dd p i) P))) := f1.up (by decide)
      refine c_countCues1 (CSh_fr fA (by decide) s) ws (by omega) ⟨hix.1, hix.1, hix.1, hix.1, ?_⟩
      have hcc := cntB_le (inB pl i) 30
      rw [l4, pk_div (by omega) (by omega) (by omega), nI_1 (cntB (inB pl i) 30 / 4), nI_1 i]
      generalize hF4 : up F' 29 i (nI (2 - cntB (fun p => freshB Y kd dd p i) P)) = F4 at fA ⊢
      have e107 : F4 107 0 = nI (wt (raN P Y kd dd) i) := by rw [← hF4, up_ne _ _ _ (by decide)]; exact f3
      have e29 : ∀ t, F4 29 t = if t = i then nI (nuN P Y kd dd i) else F' 29 t := fun t => by rw [← hF4, up_i, if_pos rfl]; rfl
      have e30 : F4 30 = F' 30 := by rw [← hF4, up_ne _ _ _ (by decide)]
      have e31 : F4 31 = F' 31 := by rw [← hF4, up_ne _ _ _ (by decide)]
      rw [up_ne _ _ _ (show (107 : Nat) ≠ 31 by decide), up_ne _ _ _ (show (107 : Nat) ≠ 30 by decide), up_ne _ _ _ (show (107 : Nat) ≠ 31 by decide), upS_ne _ _ (show (29 : Nat) ≠ 107 by decide), up_ne _ _ _ (show (29 : Nat) ≠ 30 by decide), up_ne _ _ _ (show (29 : Nat) ≠ 31 by decide), e107, e29, if_pos rfl, nI_1, pk_mul, nI_add]
      refine ih (i + 1) _ (by omega) (((fA.up (by decide)).up (by decide)).up (by decide)) (fun t ht => ?_) (by rw [upS_same]; rfl)
      rw [upS_ne _ _ (show (29 : Nat) ≠ 107 by decide), up_ne _ _ _ (show (29 : Nat) ≠ 30 by decide), up_ne _ _ _ (show (29 : Nat) ≠ 31 by decide), upS_ne _ _ (show (30 : Nat) ≠ 107 by decide), up_i, if_pos rfl, up_ne _ _ _ (show (30 : Nat) ≠ 31 by decide), upS_ne _ _ (show (31 : Nat) ≠ 107 by decide), up_ne _ _ _ (show (31 : Nat) ≠ 30 by decide), up_i, if_pos rfl, e29, e30, e31]
      by_cases e : t = i
      · rw [if_pos e, if_pos e, if_pos e, e]
        exact ⟨rfl, rfl, rfl⟩
      · rw [if_neg e, if_neg e, if_neg e]
        exact f2 t (by omega)
  exact key T 0 _ (by omega) (Fr.rf.up (by decide)) (fun t ht => absurd ht (by omega)) (by rw [upS_same]; rfl)
theorem c_stale1 (s : CSh T dr pl mu lf F) (v : CCo P Y kd sz ow dd rh fm ou F) (w : WCo T P Y kd sz ow dd rh fm ou) {p : Nat} (hp : p < P) (h : Q (nI (maskB (stB Y kd dd p) T)) F G) : AMi D (d + 4) nPutIns_staleTracks [.ref 29, .int (nI p)] F G Q := by
  have hT := s.1
  refine ePutIns_staleTracks ?_
  have key : ∀ k i, i + k = T → AWi D (d + 4) nPutIns_staleTracks 4 [(0, .ref 29), (1, .int (nI p)), (2, .int (nI (maskB (stB Y kd dd p) i))), (3, .int (nI i))] [] F G Q := by
    intro k
    induction k with
    | zero =>
      intro i hi
      refine bPutIns_staleTracks_4 (c_tracks s ?_)
      rw [nI_leI (by omega) (by omega), show i = T by omega]
      exact ⟨fun _ => h, fun e => absurd (by omega) e⟩
    | succ k ih =>
      intro i hi
      have hn := ih (i + 1) (by omega)
      rw [← nI_1 i, maskB] at hn
      have no : stB Y kd dd p i = false → AWi D (d + 4) nPutIns_staleTracks 44 [(0, .ref 29), (1, .int (nI p)), (2, .int (nI (maskB (stB Y kd dd p) i))), (3, .int (nI i))] [.int 0] F G Q := by
        intro e
        rw [e] at hn
        refine bPutIns_staleTracks_44 ⟨fun _ => ?_, fun e => absurd rfl e⟩
        rw [nI_or0]
        exact hn
      have yes : stB Y kd dd p i = true → AWi D (d + 4) nPutIns_staleTracks 44 [(0, .ref 29), (1, .int (nI p)), (2, .int (nI (maskB (stB Y kd dd p) i))), (3, .int (nI i))] [.int 1] F G Q := by
        intro e
        rw [e, if_pos rfl] at hn
        refine bPutIns_staleTracks_44 ⟨fun e => absurd e ne10, fun _ => ?_⟩
        rw [bt_or _ (maskB_lt (by omega)) i (by omega)]
        exact hn
      unfold stB at no yes
      refine bPutIns_staleTracks_4 (c_tracks s ?_)
      rw [nI_leI (by omega) (by omega)]
      refine ⟨fun e => absurd e (by omega), fun _ => c_knows1 v w hp (by omega) ⟨fun e => bPutIns_staleTracks_43 (no ?_), fun e => c_isFresh1 v w hp (by omega) ⟨fun e2 => bPutIns_staleTracks_43 (no ?_), fun e2 => yes ?_⟩⟩⟩
      · rw [(bI_0 _).mp e]; rfl
      · rw [(bI_n0 _).mp e2]; simp
      · rw [(bI_0 _).mp e2, (bI_n0 _).mp e]; rfl
  exact key T 0 (by omega)
theorem c_plus1 {o : Option Nat} {k : Nat} (ho : ∀ x, o = some x → x < 3486784401000000) (h : Ql (lW (addO o k)) F G) : AMl D (d + 1) nPutIns_plus [.long (lW o), .long (lN k)] F G Ql := by
  refine ePutIns_plus ?_
  rw [lW_no ho]
  cases o with
  | none => exact ⟨fun e => absurd rfl e, fun _ => h⟩
  | some x =>
    refine ⟨fun _ => ?_, fun e => (by cases e)⟩
    show Ql (lN x + lN k) F G
    rw [lN_add]
    exact h
theorem c_hasPut1 (pp : PPi T P Y pl kd dd F) (hT : T ≤ 8) {x t : Nat} (ht : t < T) (hx : x < 2 ^ 31) (hw : wt (raN P Y kd dd) t < 2 ^ 31) (h : Q (bI (decide (0 < dg (raN P Y kd dd) x t))) F G) : AMi D (d + 1) nPutIns_hasPutIn [.ref 29, .int (nI x), .int (nI t)] F G Q := by
  have hit := ix1 (n := 8) (c := t) (by omega) (by omega)
  have hwp := wt_pos (r := raN P Y kd dd) ra_pos t
  have hnu := nuN_le (P := P) (Y := Y) (kd := kd) (dd := dd) t
  refine ePutIns_hasPutIn ⟨hit.1, hit.1, ?_⟩
  rw [hit.2, pp.1 t ht, pp.2.1 t ht, nI_1, nI_ltI (by omega) (by omega), pk_div (by omega) hwp (by omega)]
  have hq : x / wt (raN P Y kd dd) t < 2 ^ 31 := Nat.lt_of_le_of_lt (Nat.div_le_self _ _) hx
  rw [pk_rem hq (by omega) (by omega)]
  have hdg : dg (raN P Y kd dd) x t = x / wt (raN P Y kd dd) t % (nuN P Y kd dd t + 1) := rfl
  rw [hdg] at h
  have hmod := Nat.mod_lt (x / wt (raN P Y kd dd) t) (show 0 < nuN P Y kd dd t + 1 by omega)
  have z1 : ∀ n, n < 2 ^ 31 → (nI n ≤ 0 ↔ n = 0) := fun n hn => by
    rw [← nI_0, nI_leI hn (by omega)]; omega
  have z2 : ∀ n, n < 2 ^ 31 → (nI n = 0 ↔ n = 0) := fun n hn => by
    rw [← nI_0]; exact nI_eq hn (by omega)
  rw [z1 _ hw, z1 _ (by omega), z1 _ (by omega), z2 _ hw, z2 _ (by omega)]
  refine ⟨fun e => absurd e (by omega), fun _ => ⟨fun e => absurd e (by omega), fun _ => ⟨fun e => ?_, fun e => ⟨by omega, by omega, fun e2 => ?_, fun e2 => ?_⟩⟩⟩⟩
  · rw [Nat.div_eq_of_lt e, Nat.zero_mod] at h
    exact h
  · rw [e2] at h; exact h
  · rw [decide_eq_true (by omega)] at h; exact h
/-- what the row holds when p people are in -/
def TBp (T P Y : Nat) (pl : Nat → Nat → Option Nat) (kd : Nat → Nat) (dd : Nat → Nat → Option Nat) (p : Nat) (G : Nat → Int64) : Prop := ∀ x, x < wt (raN P Y kd dd) T → G x = lW (wV T (stB Y kd dd) (hhN pl) p (dg (raN P Y kd dd) x))
theorem wV_lim (hT : T ≤ 8) {p : Nat} (hp : p ≤ 10) {c : gVec} {x : Nat} (h : wV T (stB Y kd dd) (hhN pl) p c = some x) : x < 3486784401000000 := by
  have := wV_le hT (H := 8) hhN_le p c x h
  have h2 : p * ((8 + 1) * HR) ≤ 10 * ((8 + 1) * HR) := Nat.mul_le_mul_right _ hp
  have h3 : 10 * ((8 + 1) * HR) < 3486784401000000 := by decide
  omega
theorem c_leastWith1 (s : CSh T dr pl mu lf F) (pp : PPi T P Y pl kd dd F) (h576 : wt (raN P Y kd dd) T ≤ 576) {p x : Nat} (hp : p < 10) (hx : x < wt (raN P Y kd dd) T) (hG : ∀ y, y ≤ x → G y = lW (wV T (stB Y kd dd) (hhN pl) p (dg (raN P Y kd dd) y))) (h : Ql (lW (wV T (stB Y kd dd) (hhN pl) (p + 1) (dg (raN P Y kd dd) x))) F G) : AMl D (d + 2) nPutIns_leastWith [.ref 29, .int (nI (maskB (stB Y kd dd p) T)), .long (lN (9 ^ (9 - p))), .int (nI x)] F G Ql := by
  have hT := s.1
  have hix := ix1 (n := 576) (c := x) (by omega) (by omega)
  have lim := fun c x h => wV_lim (T := T) (Y := Y) (pl := pl) (kd := kd) (dd := dd) hT (p := p) (by omega) (c := c) (x := x) h
  have h9 : (9 : Nat) ^ (9 - p) ≤ 9 ^ 9 := Nat.pow_le_pow_right (by omega) (by omega)
  have e9 : (9 : Nat) ^ 9 = 387420489 := by decide
  refine ePutIns_leastWith ⟨hix.1, ?_⟩
  rw [hix.2, hG x (Nat.le_refl x), show (8 : Int64) = lN 8 from rfl, lN_mul]
  refine c_plus1 (lim _) ?_
  rw [wV] at h
  have key : ∀ k i, i + k = T → AWl D (d + 2) nPutIns_leastWith 20 [(0, .ref 29), (1, .int (nI (maskB (stB Y kd dd p) T))), (2, .long (lN (9 ^ (9 - p)))), (4, .int (nI x)), (5, .long (lW (optN (addO (wV T (stB Y kd dd) (hhN pl) p (dg (raN P Y kd dd) x)) (8 * 9 ^ (9 - p))) (fun t => if stB Y kd dd p t && decide (0 < dg (raN P Y kd dd) x t) then addO (wV T (stB Y kd dd) (hhN pl) p (decV (dg (raN P Y kd dd) x) t)) (hhN pl t * HR + t * 9 ^ (9 - p)) else none) i))), (7, .int (nI i))] [] F G Ql := by
    intro k
    induction k with
    | zero =>
      intro i hi
      refine bPutIns_leastWith_20 (c_tracks s ?_)
      rw [nI_leI (by omega) (by omega), show i = T by omega]
      exact ⟨fun _ => h, fun e => absurd (by omega) e⟩
    | succ k ih =>
      intro i hi
      have hn := ih (i + 1) (by omega)
      have hii := ix1 (n := 8) (c := i) (by omega) (by omega)
      have hwi : wt (raN P Y kd dd) i ≤ 576 := Nat.le_trans (wt_le ra_pos (show i ≤ T by omega)) h576
      rw [← nI_1 i, optN] at hn
      have same : (stB Y kd dd p i && decide (0 < dg (raN P Y kd dd) x i)) = false → AWl D (d + 2) nPutIns_leastWith 20 [(0, .ref 29), (1, .int (nI (maskB (stB Y kd dd p) T))), (2, .long (lN (9 ^ (9 - p)))), (4, .int (nI x)), (5, .long (lW (optN (addO (wV T (stB Y kd dd) (hhN pl) p (dg (raN P Y kd dd) x)) (8 * 9 ^ (9 - p))) (fun t => if stB Y kd dd p t && decide (0 < dg (raN P Y kd dd) x t) then addO (wV T (stB Y kd dd) (hhN pl) p (decV (dg (raN P Y kd dd) x) t)) (hhN pl t * HR + t * 9 ^ (9 - p)) else none) i))), (7, .int (nI i + 1))] [] F G Ql := by
        intro e
        rw [e, if_neg (by simp)] at hn
        have e2 : ∀ o : Option Nat, ominO o none = o := fun o => by cases o <;> rfl
        rw [e2] at hn
        exact hn
      have hbit : ((((nI (maskB (stB Y kd dd p) T)) >>> (nI i &&& 31)) &&& 1) = 1) ↔ stB Y kd dd p i = true := by
        rw [bt_and1 _ (maskB_lt (by omega)) i (by omega), maskB_bit, decide_eq_true (by omega), Bool.true_and]
        cases stB Y kd dd p i <;> decide
      refine bPutIns_leastWith_20 (c_tracks s ?_)
      rw [nI_leI (by omega) (by omega), hbit]
      refine ⟨fun e => absurd e (by omega), fun _ => ⟨fun e => same (by simp at e; rw [e]; rfl), fun e => c_hasPut1 pp hT (by omega) (by omega) (by omega) ⟨fun e2 => same (by rw [(bI_0 _).mp e2]; simp), fun e2 => ?_⟩⟩⟩
      have e2 := of_decide_eq_true ((bI_n0 _).mp e2)
      have hle : wt (raN P Y kd dd) i ≤ x := by
        rcases Nat.lt_or_ge x (wt (raN P Y kd dd) i) with z | z
        · unfold dg at e2; rw [Nat.div_eq_of_lt z, Nat.zero_mod] at e2; omega
        · exact z
      have hiy := ix1 (n := 576) (c := x - wt (raN P Y kd dd) i) (by omega) (by omega)
      rw [hii.2, pp.2.1 i (by omega), pp.2.2.1 i (by omega), pk_sub hle, hiy.2, hG _ (by omega), dg_dec ra_pos e2, nI_l (by have := hhN_le (pl := pl) i; omega), nI_l (by omega), hrL, lN_mul, lN_mul, lN_add]
      refine ⟨hii.1, hiy.1, hii.1, c_plus1 (lim _) ?_⟩
      rw [e, decide_eq_true e2, Bool.and_self, if_pos rfl] at hn
      have limb : ∀ y, addO (wV T (stB Y kd dd) (hhN pl) p (decV (dg (raN P Y kd dd) x) i)) (hhN pl i * HR + i * 9 ^ (9 - p)) = some y → y < 3486784401000000 := by
        intro y hy
        obtain ⟨z, hz, e3⟩ := addO_some hy
        have h1 := wV_le hT (H := 8) hhN_le p _ z hz
        have h2 : p * ((8 + 1) * HR) ≤ 9 * ((8 + 1) * HR) := Nat.mul_le_mul_right _ (by omega)
        have h3 : hhN pl i * HR ≤ 8 * HR := Nat.mul_le_mul_right _ (hhN_le i)
        have h4 : i * 9 ^ (9 - p) ≤ 7 * 387420489 := Nat.mul_le_mul (by omega) (by omega)
        unfold HR at *
        omega
      have lima : ∀ y, optN (addO (wV T (stB Y kd dd) (hhN pl) p (dg (raN P Y kd dd) x)) (8 * 9 ^ (9 - p))) (fun t => if stB Y kd dd p t && decide (0 < dg (raN P Y kd dd) x t) then addO (wV T (stB Y kd dd) (hhN pl) p (decV (dg (raN P Y kd dd) x) t)) (hhN pl t * HR + t * 9 ^ (9 - p)) else none) i = some y → y < 3486784401000000 := by
        intro y hy
        rcases opt_att i hy with e3 | ⟨t, ht, e3⟩
        · obtain ⟨z, hz, e4⟩ := addO_some e3
          have h1 := wV_le hT (H := 8) hhN_le p _ z hz
          have h2 : p * ((8 + 1) * HR) ≤ 9 * ((8 + 1) * HR) := Nat.mul_le_mul_right _ (by omega)
          unfold HR at *
          omega
        · split at e3
          · obtain ⟨z, hz, e4⟩ := addO_some e3
            have h1 := wV_le hT (H := 8) hhN_le p _ z hz
            have h2 : p * ((8 + 1) * HR) ≤ 9 * ((8 + 1) * HR) := Nat.mul_le_mul_right _ (by omega)
            have h3 : hhN pl t * HR ≤ 8 * HR := Nat.mul_le_mul_right _ (hhN_le t)
            have h4 : t * 9 ^ (9 - p) ≤ 7 * 387420489 := Nat.mul_le_mul (by omega) (by omega)
            unfold HR at *
            omega
          · cases e3
      rw [lW_min lima limb]
      exact hn
  exact key T 0 (by omega)
end CPLAN
