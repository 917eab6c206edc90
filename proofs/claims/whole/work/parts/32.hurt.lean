/-! HURT: who takes over -/
def holdTo (ho : Nat → Nat → Option Nat) (t f i : Nat) (v : Option Nat) : Nat → Nat → Option Nat := fun t' c' => if t' = t ∧ (f ≤ c' ∧ c' < i) then v else ho t' c'
theorem holdTo_0 (ho : Nat → Nat → Option Nat) (t f : Nat) (v : Option Nat) : holdTo ho t f f v = ho := by
  funext t' c'
  rw [holdTo, if_neg (by omega)]
def clash (pl ho : Nat → Nat → Option Nat) (T t f p : Nat) : Nat → Bool := anyB (fun c => decide (f ≤ c) && (inB pl t c && anyB (fun u => inB pl u c && decide (ho u c = some p)) T))
def takeP (T : Nat) (dr : Nat → Nat) (pl : Nat → Nat → Option Nat) (sz : Nat → Nat) (ow : Nat → Option Nat) (dd : Nat → Nat → Option Nat) (ou : Nat → Nat) (ho : Nat → Nat → Option Nat) (t f p : Nat) : Bool := !(decide (ou p < 30)) && (playB sz ow dd p t (dr t) && !clash pl ho T t f p 30)
def takeF (T P : Nat) (dr : Nat → Nat) (pl : Nat → Nat → Option Nat) (sz : Nat → Nat) (ow : Nat → Option Nat) (dd : Nat → Nat → Option Nat) (ou : Nat → Nat) (ho : Nat → Nat → Option Nat) (t f : Nat) : Bool × (Nat → Nat → Option Nat) :=
  if fromB pl t f then (match firstB (takeP T dr pl sz ow dd ou (holdTo ho t f 30 none) t f) P with
    | some p => (true, holdTo (holdTo ho t f 30 none) t f 30 (some p))
    | none => (false, holdTo ho t f 30 none)) else (false, holdTo ho t f 30 none)
def heldF (ho : Nat → Nat → Option Nat) (t x m : Nat) : Nat → Option Nat := firstB (fun c => decide (m ≤ c) && decide (ho t c = some x))
def hurtM (o : Option Nat) (st : Nat × (Nat → Nat → Option Nat)) (tk : Nat → Bool × (Nat → Nat → Option Nat)) : Nat × (Nat → Nat → Option Nat) := match o with
  | none => st
  | some f => (st.1 + (if (tk f).1 then 1 else 0), (tk f).2)
def hurtF (T P : Nat) (dr : Nat → Nat) (pl : Nat → Nat → Option Nat) (sz : Nat → Nat) (ow : Nat → Option Nat) (dd : Nat → Nat → Option Nat) (ou : Nat → Nat) (x m n : Nat) (ho : Nat → Nat → Option Nat) : Nat → Nat × (Nat → Nat → Option Nat)
  | 0 => (0, ho)
  | t + 1 => hurtM (heldF (hurtF T P dr pl sz ow dd ou x m n ho t).2 t x m n) (hurtF T P dr pl sz ow dd ou x m n ho t) (takeF T P dr pl sz ow dd ou (hurtF T P dr pl sz ow dd ou x m n ho t).2 t)
def bmask (pl ho : Nat → Nat → Option Nat) (T t f : Nat) : Nat → Nat
  | 0 => 0
  | i + 1 => if f ≤ i ∧ inB pl t i = true then bmask pl ho T t f i ||| hmask pl ho i T else bmask pl ho T t f i
theorem bmask_f {pl ho : Nat → Nat → Option Nat} {T t f : Nat} : ∀ i, i ≤ f → bmask pl ho T t f i = 0
  | 0, _ => rfl
  | i + 1, h => by rw [bmask, if_neg (by omega)]; exact bmask_f i (by omega)
theorem bmask_lt {pl ho : Nat → Nat → Option Nat} {T t f : Nat} (hho : ∀ t c p, ho t c = some p → p < 10) : ∀ i, bmask pl ho T t f i < 1024
  | 0 => by rw [bmask]; decide
  | i + 1 => by
    have ih := bmask_lt (pl := pl) (T := T) (t := t) (f := f) hho i
    rw [bmask]
    split
    · exact Nat.or_lt_two_pow (n := 10) ih (hmask_lt (fun t p hp => hho t i p hp) T)
    · exact ih
theorem bmask_bit {pl ho : Nat → Nat → Option Nat} {T t f p : Nat} : ∀ i, (bmask pl ho T t f i).testBit p = clash pl ho T t f p i
  | 0 => by simp [bmask, clash, anyB]
  | i + 1 => by
    have ih := bmask_bit (pl := pl) (ho := ho) (T := T) (t := t) (f := f) (p := p) i
    unfold clash at ih ⊢
    rw [bmask, anyB, ← ih]
    by_cases h1 : f ≤ i
    · cases h2 : inB pl t i with
      | true => rw [if_pos ⟨h1, rfl⟩, Nat.testBit_or, hmask_bit, decide_eq_true h1]; simp
      | false => rw [if_neg (by simp)]; simp
    · rw [if_neg (by omega), decide_eq_false h1]; simp
theorem from_last {pl : Nat → Nat → Option Nat} {t f : Nat} (hf : f < 30) : nI f ≤ oM (lastB (inB pl t) 30) ↔ fromB pl t f = true := by
  have h1 := lastB_from (p := inB pl t) f 30
  have h2 : fromB pl t f = true ↔ ∃ c, c < 30 ∧ f ≤ c ∧ inB pl t c = true := by
    unfold fromB
    rw [anyB_iff]
    constructor
    · rintro ⟨c, hc, e⟩
      rw [Bool.and_eq_true, decide_eq_true_iff] at e
      exact ⟨c, hc, e.1, e.2⟩
    · rintro ⟨c, hc, e1, e2⟩
      exact ⟨c, hc, by rw [decide_eq_true e1, e2]; rfl⟩
  rw [h2]
  cases hl : lastB (inB pl t) 30 with
  | none =>
    rw [hl] at h1
    constructor
    · intro e
      exact absurd e (by rw [show oM none = (-1 : Int32) from rfl, Int32.le_iff_toInt_le, nI_toInt (by omega), show (-1 : Int32).toInt = -1 from by decide]; omega)
    · rintro ⟨c, hc, e1, e2⟩
      have := h1.mp (fun k e => by cases e) c e1 hc
      rw [this] at e2
      cases e2
  | some k =>
    have hk := lastB_lt hl
    rw [hl] at h1
    rw [oM_some, nI_leI (by omega) (by omega)]
    constructor
    · intro e
      apply Classical.byContradiction
      intro hno
      have := h1.mpr (fun c e1 e2 => by
        cases hx : inB pl t c with
        | false => rfl
        | true => exact absurd ⟨c, e2, e1, hx⟩ hno) k rfl
      omega
    · rintro ⟨c, hc, e1, e2⟩
      apply Classical.byContradiction
      intro hno
      have := h1.mp (fun j e => by cases e; omega) c e1 hc
      rw [this] at e2
      cases e2
section HURT
variable {D : va_G} {d : Nat} {Q : Int32 → gF → (Nat → Int64) → Prop} {Qv : gF → (Nat → Int64) → Prop} {F F' : gF} {G : Nat → Int64} {T P Y : Nat} {dr : Nat → Nat} {pl : Nat → Nat → Option Nat} {mu : Nat → Nat → Bool} {lf : Nat → Option (Nat × Nat)} {kd sz : Nat → Nat} {ow : Nat → Option Nat} {dd rh : Nat → Nat → Option Nat} {fm ou : Nat → Nat} {hc : Bool} {ca : Nat → Option Nat} {ho : Nat → Nat → Option Nat}
theorem CNi_hold {t f i : Nat} {v : Option Nat} (n : CNi true ca (holdTo ho t f i v) F) (ht : t < 8) (hi : i < 30) (hf : f ≤ i) : CNi true ca (holdTo ho t f (i + 1) v) (up F 17 (t * 30 + i) (oN v)) := by
  refine ⟨n.1, n.2.1, fun _ t' c' q1 q2 => ?_⟩
  rw [up_same, upd_i, holdTo]
  by_cases e : t' * 30 + c' = t * 30 + i
  · rw [if_pos e, if_pos (by omega)]
  · rw [if_neg e, n.2.2 rfl t' c' q1 q2, holdTo]
    by_cases e2 : t' = t ∧ f ≤ c' ∧ c' < i
    · rw [if_pos e2, if_pos (by omega)]
    · rw [if_neg e2, if_neg (by omega)]
theorem MNi_hold {t f i : Nat} {v : Option Nat} (n : MNi true ca (holdTo ho t f i v) F) (ht : t < 8) (hi : i < 30) (hf : f ≤ i) : MNi true ca (holdTo ho t f (i + 1) v) (up F 52 (t * 30 + i) (oM v)) := by
  refine ⟨n.1, n.2.1, fun _ t' c' q1 q2 => ?_⟩
  rw [up_same, upd_i, holdTo]
  by_cases e : t' * 30 + c' = t * 30 + i
  · rw [if_pos e, if_pos (by omega)]
  · rw [if_neg e, n.2.2 rfl t' c' q1 q2, holdTo]
    by_cases e2 : t' = t ∧ f ≤ c' ∧ c' < i
    · rw [if_pos e2, if_pos (by omega)]
    · rw [if_neg e2, if_neg (by omega)]
theorem c_holdFrom1 (s : CSh T dr pl mu lf F) (n : CNi true ca ho F) {t f : Nat} (ht : t < T) (hf : f ≤ 30) (v : Option Nat) (h : ∀ F', CNi true ca (holdTo ho t f 30 v) F' → Fr [17] F F' → Qv F' G) : AMv D (d + 2) nNight_holdFrom [.ref 16, .int (nI t), .int (nI f), .int (oN v)] F G Qv := by
  have hT := s.1
  refine eNight_holdFrom ?_
  have key : ∀ k i (F1 : gF), i + k = 30 → f ≤ i → CNi true ca (holdTo ho t f i v) F1 → Fr [17] F F1 → AWv D (d + 2) nNight_holdFrom 3 [(0, .ref 16), (1, .int (nI t)), (2, .int (nI f)), (3, .int (oN v)), (4, .int (nI i))] [] F1 G Qv := by
    intro k
    induction k with
    | zero =>
      intro i F1 hi hfi n1 f1
      refine bNight_holdFrom_3 ⟨fun _ => ?_, fun e => absurd ((le30 (by omega)).mpr (by omega)) e⟩
      rw [show i = 30 by omega] at n1
      exact h F1 n1 f1
    | succ k ih =>
      intro i F1 hi hfi n1 f1
      have s1 := CSh_fr f1 (by decide) s
      obtain ⟨e1, e2⟩ := ix30 (t := t) (c := i) (by omega) (by omega)
      refine bNight_holdFrom_3 ⟨fun e => absurd ((le30 (by omega)).mp e) (by omega), fun _ => c_isTrack1 s1 ht ⟨fun e => absurd e ne10, fun _ => c_isCue1 (by omega) ⟨fun e => absurd e ne10, fun _ => ⟨e1, ?_⟩⟩⟩⟩
      rw [e2, nI_1]
      exact ih (i + 1) _ (by omega) (by omega) (CNi_hold n1 (by omega) (by omega) hfi) (f1.up (by decide))
  exact key (30 - f) f F (by omega) (Nat.le_refl f) (by rw [holdTo_0]; exact n) Fr.rf
theorem c_busyFrom1 (s : CSh T dr pl mu lf F) (w : WSh T dr pl mu lf) (n : CNi true ca ho F) (hho : ∀ t c p, ho t c = some p → p < 10) {t f : Nat} (ht : t < T) (hf : f ≤ 30) (h : Q (nI (bmask pl ho T t f 30)) F G) : AMi D (d + 4) nNight_busyFrom [.ref 16, .int (nI t), .int (nI f)] F G Q := by
  refine eNight_busyFrom ?_
  have key : ∀ k i, i + k = 30 → f ≤ i → AWi D (d + 4) nNight_busyFrom 5 [(0, .ref 16), (1, .int (nI t)), (2, .int (nI f)), (3, .int (nI (bmask pl ho T t f i))), (4, .int (nI i))] [] F G Q := by
    intro k
    induction k with
    | zero =>
      intro i hi hfi
      refine bNight_busyFrom_5 ⟨fun _ => ?_, fun e => absurd ((le30 (by omega)).mpr (by omega)) e⟩
      rw [show i = 30 by omega]
      exact h
    | succ k ih =>
      intro i hi hfi
      have hn := ih (i + 1) (by omega) (by omega)
      rw [← nI_1, bmask] at hn
      refine bNight_busyFrom_5 ⟨fun e => absurd ((le30 (by omega)).mp e) (by omega), fun _ => c_isIn1 s w ht (by omega) ⟨fun e => ?_, fun e => c_holdersIn1 s w n hho (by omega) ?_⟩⟩
      · rw [bI_0] at e
        rw [if_neg (by rw [e]; simp)] at hn
        rw [show nI (bmask pl ho T t f i) ||| 0 = nI (bmask pl ho T t f i) from Int32.or_zero]
        exact hn
      · rw [bI_n0] at e
        rw [if_pos ⟨hfi, e⟩, ← nI_or] at hn
        exact hn
  have hk := key (30 - f) f (by omega) (Nat.le_refl f)
  rw [bmask_f f (Nat.le_refl f)] at hk
  exact hk
theorem c_firstHeld1 (s : CSh T dr pl mu lf F) (n : CNi true ca ho F) (hho : ∀ t c p, ho t c = some p → p < 10) {t x m : Nat} (ht : t < T) (hx : x < 10) (hm : m ≤ 30) (h : Q (oN (heldF ho t x m 30)) F G) : AMi D (d + 3) nNight_firstHeld [.ref 16, .int (nI t), .int (nI x), .int (nI m)] F G Q := by
  refine eNight_firstHeld ?_
  have key : ∀ k i, i + k = 30 → m ≤ i → heldF ho t x m i = none → AWi D (d + 3) nNight_firstHeld 3 [(0, .ref 16), (1, .int (nI t)), (2, .int (nI x)), (3, .int (nI m)), (4, .int (nI i))] [] F G Q := by
    intro k
    induction k with
    | zero =>
      intro i hi hmi hh
      refine bNight_firstHeld_3 ⟨fun _ => ?_, fun e => absurd ((le30 (by omega)).mpr (by omega)) e⟩
      rw [show i = 30 by omega] at hh
      rw [hh] at h
      exact h
    | succ k ih =>
      intro i hi hmi hh
      refine bNight_firstHeld_3 ⟨fun e => absurd ((le30 (by omega)).mp e) (by omega), fun _ => c_holderAt1 s n ht (by omega) ?_⟩
      rw [oN_eq (by omega) (fun k hk => by have := hho t i k hk; omega)]
      refine ⟨fun e => ?_, fun e => ?_⟩
      · rw [nI_1]
        refine ih (i + 1) (by omega) (by omega) ?_
        unfold heldF at hh ⊢
        rw [firstB, hh]
        dsimp only
        rw [decide_eq_false e]
        simp
      · have e2 : heldF ho t x m 30 = some i := firstB_le (by omega) (by rw [decide_eq_true e, decide_eq_true hmi]; rfl) (firstB_none.mp hh)
        rw [e2] at h
        exact h
  refine key (30 - m) m (by omega) (Nat.le_refl m) (firstB_none.mpr (fun k hk => ?_))
  rw [decide_eq_false (by omega)]
  rfl
theorem c_handOn1 (s : CSh T dr pl mu lf F) (w : WSh T dr pl mu lf) (v : CCo P Y kd sz ow dd rh fm ou F) (wc : WCo T P Y kd sz ow dd rh fm ou) (n : CNi true ca ho F) (hho : ∀ t c p, ho t c = some p → p < 10) {t f : Nat} (ht : t < T) (hf : f < 30) (h : ∀ F', CNi true ca (takeF T P dr pl sz ow dd ou ho t f).2 F' → Fr [17] F F' → Q (bI (takeF T P dr pl sz ow dd ou ho t f).1) F' G) : AMi D (d + 5) nNight_handOn [.ref 16, .int (nI t), .int (nI f)] F G Q := by
  have hT := s.1
  have hP := v.1
  refine eNight_handOn (c_holdFrom1 s n ht (by omega) none (fun F1 n1 f1 => ?_))
  have s1 := CSh_fr f1 (by decide) s
  have v1 := CCo_fr f1 (by decide) v
  have hho1 : ∀ t' c p, holdTo ho t f 30 none t' c = some p → p < 10 := by
    intro t' c p hp
    rw [holdTo] at hp
    split at hp
    · cases hp
    · exact hho t' c p hp
  refine c_lastCue1 s1 w ht ?_
  rw [from_last hf]
  unfold takeF at h
  refine ⟨fun e => c_busyFrom1 s1 w n1 hho1 ht (by omega) ?_, fun e => ?_⟩
  · rw [if_pos e] at h
    have hb := bmask_lt (pl := pl) (T := T) (t := t) (f := f) hho1 30
    have key : ∀ k i, i + k = P → firstB (takeP T dr pl sz ow dd ou (holdTo ho t f 30 none) t f) i = none → AWi D (d + 5) nNight_handOn 32 [(0, .ref 16), (1, .int (nI t)), (2, .int (nI f)), (3, .int (nI (bmask pl (holdTo ho t f 30 none) T t f 30))), (4, .int (nI i))] [] F1 G Q := by
      intro k
      induction k with
      | zero =>
        intro i hi hfi
        refine bNight_handOn_32 (c_people v1 ?_)
        rw [nI_leI (by omega) (by omega)]
        refine ⟨fun _ => ?_, fun e => absurd (by omega) e⟩
        rw [show P = i by omega, hfi] at h
        exact h F1 n1 f1
      | succ k ih =>
        intro i hi hfi
        have step : takeP T dr pl sz ow dd ou (holdTo ho t f 30 none) t f i = false → AWi D (d + 5) nNight_handOn 32 [(0, .ref 16), (1, .int (nI t)), (2, .int (nI f)), (3, .int (nI (bmask pl (holdTo ho t f 30 none) T t f 30))), (4, .int (nI i + 1))] [] F1 G Q := by
          intro hz
          rw [nI_1]
          refine ih (i + 1) (by omega) ?_
          rw [firstB, hfi]
          dsimp only
          rw [if_neg (by rw [hz]; decide)]
        have b0 : takeP T dr pl sz ow dd ou (holdTo ho t f 30 none) t f i = false → AWi D (d + 5) nNight_handOn 69 [(0, .ref 16), (1, .int (nI t)), (2, .int (nI f)), (3, .int (nI (bmask pl (holdTo ho t f 30 none) T t f 30))), (4, .int (nI i))] [] F1 G Q := fun hz => bNight_handOn_69 (bNight_handOn_70 ⟨fun _ => step hz, fun e => absurd rfl e⟩)
        refine bNight_handOn_32 (c_people v1 ?_)
        rw [nI_leI (by omega) (by omega)]
        refine ⟨fun e => absurd e (by omega), fun _ => c_isOut1 v1 wc (by omega) ⟨fun e1 => b0 ?_, fun e1 => ?_⟩⟩
        · rw [bI_n0] at e1
          unfold takeP
          rw [e1]
          rfl
        · rw [bI_0] at e1
          rw [bt_and1 _ hb i (by omega), bmask_bit]
          refine ⟨fun e2 => b0 ?_, fun e2 => bNight_handOn_70 ⟨fun e => absurd e ne10, fun _ => c_dressOf1 s1 ht (c_canPlay1 v1 wc hT (by omega) (by omega) (w.1 t ht) ⟨fun e3 => step ?_, fun e3 => ?_⟩)⟩⟩
          · rw [bI_n0] at e2
            unfold takeP
            rw [e2]
            simp
          · rw [bI_0] at e3
            unfold takeP
            rw [e3]
            simp
          · rw [bI_0] at e2
            rw [bI_n0] at e3
            have hp : takeP T dr pl sz ow dd ou (holdTo ho t f 30 none) t f i = true := by
              unfold takeP
              rw [e1, e2, e3]
              rfl
            have hfst : firstB (takeP T dr pl sz ow dd ou (holdTo ho t f 30 none) t f) P = some i := firstB_le (by omega) hp (firstB_none.mp hfi)
            rw [hfst] at h
            refine c_holdFrom1 s1 n1 ht (by omega) (some i) (fun F2 n2 f2 => h F2 n2 ((f1.tr f2).sub (by decide)))
    exact key P 0 (by omega) rfl
  · rw [if_neg e] at h
    exact h F1 n1 f1
theorem hho_take (hP : P ≤ 10) (hho : ∀ t c p, ho t c = some p → p < P) {t f : Nat} : ∀ t' c p, (takeF T P dr pl sz ow dd ou ho t f).2 t' c = some p → p < P := by
  have h1 : ∀ t' c p, holdTo ho t f 30 none t' c = some p → p < P := by
    intro t' c p hp
    rw [holdTo] at hp
    split at hp
    · cases hp
    · exact hho t' c p hp
  intro t' c p
  unfold takeF
  split
  · cases hf : firstB (takeP T dr pl sz ow dd ou (holdTo ho t f 30 none) t f) P with
    | none => exact h1 t' c p
    | some q =>
      have := firstB_lt hf
      intro hp
      dsimp only at hp
      rw [holdTo] at hp
      split at hp
      · cases hp; omega
      · exact h1 t' c p hp
  · exact h1 t' c p
theorem hho_hurt (hP : P ≤ 10) (hho : ∀ t c p, ho t c = some p → p < P) {x m n : Nat} (i : Nat) : ∀ t' c p, (hurtF T P dr pl sz ow dd ou x m n ho i).2 t' c = some p → p < P := by
  induction i with
  | zero => exact hho
  | succ i ih =>
    rw [hurtF]
    generalize hurtF T P dr pl sz ow dd ou x m n ho i = st at ih ⊢
    cases heldF st.2 i x m n with
    | none => exact ih
    | some f => exact hho_take hP ih
theorem hurt_cnt {x m n : Nat} (i : Nat) : (hurtF T P dr pl sz ow dd ou x m n ho i).1 ≤ i := by
  induction i with
  | zero => exact Nat.le_refl 0
  | succ i ih =>
    rw [hurtF]
    generalize hurtF T P dr pl sz ow dd ou x m n ho i = st at ih ⊢
    cases heldF st.2 i x m n with
    | none => exact Nat.le_succ_of_le ih
    | some f =>
      show st.1 + (if (takeF T P dr pl sz ow dd ou st.2 i f).1 then 1 else 0) ≤ i + 1
      split <;> omega
/-- what hurtF is, without looking into it -/
def hurtS (T P : Nat) (dr : Nat → Nat) (pl : Nat → Nat → Option Nat) (sz : Nat → Nat) (ow : Nat → Option Nat) (dd : Nat → Nat → Option Nat) (ou : Nat → Nat) (x m : Nat) (ho : Nat → Nat → Option Nat) (hf : Nat → Nat × (Nat → Nat → Option Nat)) : Prop :=
  hf 0 = (0, ho) ∧ (∀ i, heldF (hf i).2 i x m 30 = none → hf (i + 1) = hf i) ∧ (∀ i f, heldF (hf i).2 i x m 30 = some f → hf (i + 1) = ((hf i).1 + (if (takeF T P dr pl sz ow dd ou (hf i).2 i f).1 then 1 else 0), (takeF T P dr pl sz ow dd ou (hf i).2 i f).2)) ∧ (∀ i, (hf i).1 ≤ i)
theorem hurtF_S {x m : Nat} : hurtS T P dr pl sz ow dd ou x m ho (hurtF T P dr pl sz ow dd ou x m 30 ho) := by
  refine ⟨rfl, fun i h => ?_, fun i f h => ?_, fun i => hurt_cnt i⟩
  · rw [hurtF, h]
    rfl
  · rw [hurtF, h]
    rfl
theorem c_replace1 (s : CSh T dr pl mu lf F) (w : WSh T dr pl mu lf) (v : CCo P Y kd sz ow dd rh fm ou F) (wc : WCo T P Y kd sz ow dd rh fm ou) (n : CNi true ca ho F) {x m : Nat} (hf : Nat → Nat × (Nat → Nat → Option Nat)) (hS : hurtS T P dr pl sz ow dd ou x m ho hf) (hho : ∀ i t c p, (hf i).2 t c = some p → p < P) (hx : x < P) (hm : m ≤ 30) (h : ∀ F', CNi true ca (hf T).2 F' → Fr [17] F F' → Q (nI (hf T).1) F' G) : AMi D (d + 6) nNight_replace [.ref 16, .int (nI x), .int (nI m)] F G Q := by
  have hT := s.1
  have hP := v.1
  obtain ⟨q0, q1, q2, q3⟩ := hS
  refine eNight_replace ?_
  have key : ∀ k i (F1 : gF), i + k = T → CNi true ca (hf i).2 F1 → Fr [17] F F1 → AWi D (d + 6) nNight_replace 5 [(0, .ref 16), (1, .int (nI x)), (2, .int (nI m)), (3, .int (nI (hf i).1)), (4, .int (nI i))] [] F1 G Q := by
    intro k
    induction k with
    | zero =>
      intro i F1 hi n1 f1
      refine bNight_replace_5 (c_tracks (CSh_fr f1 (by decide) s) ?_)
      rw [nI_leI (by omega) (by omega)]
      refine ⟨fun _ => ?_, fun e => absurd (by omega) e⟩
      rw [show i = T by omega] at n1 ⊢
      exact h F1 n1 f1
    | succ k ih =>
      intro i F1 hi n1 f1
      have s1 := CSh_fr f1 (by decide) s
      have v1 := CCo_fr f1 (by decide) v
      have hh10 : ∀ t c p, (hf i).2 t c = some p → p < 10 := fun t c p hp => by have := hho i t c p hp; omega
      have hn := fun F2 => ih (i + 1) F2 (by omega)
      refine bNight_replace_5 (c_tracks s1 ?_)
      rw [nI_leI (by omega) (by omega)]
      refine ⟨fun e => absurd e (by omega), fun _ => c_firstHeld1 s1 n1 hh10 (by omega) (by omega) hm ?_⟩
      rw [nI_1]
      cases hfh : heldF (hf i).2 i x m 30 with
      | none =>
        rw [q1 i hfh] at hn
        exact ⟨fun _ => hn F1 n1 f1, fun e => absurd rfl e⟩
      | some f =>
        rw [q2 i f hfh] at hn
        dsimp only at hn
        have hf30 := (firstB_lt hfh).1
        rw [oN_some]
        refine ⟨fun e => absurd e (nI_neN (by omega)), fun _ => ?_⟩
        refine c_handOn1 (t := i) (f := f) (ho := (hf i).2) s1 w v1 wc n1 hh10 (by omega) hf30 (fun F2 n2 f2 => ?_)
        have hfin := hn F2 n2 ((f1.tr f2).sub (by decide))
        refine ⟨fun e => ?_, fun e => ?_⟩
        · rw [bI_0] at e
          rw [if_neg (by rw [e]; decide), ← nI_add] at hfin
          exact hfin
        · rw [bI_n0] at e
          rw [if_pos e, ← nI_add] at hfin
          exact hfin
  have hk := key T 0 F (by omega) (by rw [q0]; exact n) Fr.rf
  rw [q0] at hk
  exact hk
end HURT
