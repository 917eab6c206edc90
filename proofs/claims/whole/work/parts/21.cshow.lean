/-! THE SHOW: its picture, and what the class's Show answers -/
def anyB (p : Nat → Bool) : Nat → Bool
  | 0 => false
  | n + 1 => anyB p n || p n
theorem anyB_iff (p : Nat → Bool) : ∀ n, anyB p n = true ↔ ∃ c, c < n ∧ p c = true
  | 0 => ⟨fun h => (by cases h), fun ⟨c, h, _⟩ => by omega⟩
  | n + 1 => by
    rw [anyB, Bool.or_eq_true, anyB_iff p n]
    constructor
    · rintro (⟨c, h1, h2⟩ | h)
      · exact ⟨c, by omega, h2⟩
      · exact ⟨n, by omega, h⟩
    · rintro ⟨c, h1, h2⟩
      by_cases h : c = n
      · exact Or.inr (h ▸ h2)
      · exact Or.inl ⟨c, by omega, h2⟩
theorem anyB_hit {p : Nat → Bool} {n c : Nat} (hc : c < n) (h : p c = true) : anyB p n = true := (anyB_iff p n).mpr ⟨c, hc, h⟩
theorem anyB_s {p : Nat → Bool} {c : Nat} (h : anyB p c = false) (h2 : p c = false) : anyB p (c + 1) = false := by rw [anyB, h, h2]; rfl
def cntB (p : Nat → Bool) : Nat → Nat
  | 0 => 0
  | n + 1 => cntB p n + if p n then 1 else 0
theorem cntB_le (p : Nat → Bool) : ∀ n, cntB p n ≤ n
  | 0 => Nat.le_refl 0
  | n + 1 => by
    have := cntB_le p n
    rw [cntB]
    split <;> omega
theorem cntB_cong {p q : Nat → Bool} : ∀ n, (∀ k, k < n → p k = q k) → cntB p n = cntB q n
  | 0, _ => rfl
  | n + 1, h => by rw [cntB, cntB, cntB_cong n (fun k hk => h k (by omega)), h n (by omega)]
theorem anyB_cong {p q : Nat → Bool} : ∀ n, (∀ k, k < n → p k = q k) → anyB p n = anyB q n
  | 0, _ => rfl
  | n + 1, h => by rw [anyB, anyB, anyB_cong n (fun k hk => h k (by omega)), h n (by omega)]
/-- the last place at which p holds, below n -/
def lastB (p : Nat → Bool) : Nat → Option Nat
  | 0 => none
  | n + 1 => if p n then some n else lastB p n
theorem lastB_lt {p : Nat → Bool} : ∀ {n k : Nat}, lastB p n = some k → k < n
  | 0, k, h => by cases h
  | n + 1, k, h => by
    rw [lastB] at h
    split at h
    · cases h; omega
    · have := lastB_lt h; omega
theorem lastB_from {p : Nat → Bool} (m : Nat) : ∀ n, (∀ k, lastB p n = some k → k < m) ↔ ∀ c, m ≤ c → c < n → p c = false
  | 0 => ⟨fun _ c _ h => by omega, fun _ k h => by cases h⟩
  | n + 1 => by
    rw [lastB]
    have ih := lastB_from (p := p) m n
    cases hp : p n with
    | true =>
      simp only [if_true]
      constructor
      · intro h c h1 h2
        have := h n rfl
        omega
      · intro h k hk
        cases hk
        rcases Nat.lt_or_ge n m with q | q
        · exact q
        · rw [h n q (by omega)] at hp
          cases hp
    | false =>
      simp only [Bool.false_eq_true, if_false]
      rw [ih]
      constructor
      · intro h c h1 h2
        by_cases e : c = n
        · rw [e]; exact hp
        · exact h c h1 (by omega)
      · intro h c h1 h2
        exact h c h1 (by omega)
abbrev gF : Type := Nat → Nat → Int32
def up2 {α : Type} (f : Nat → Nat → α) (t c : Nat) (v : α) : Nat → Nat → α := fun t' c' => if t' = t ∧ c' = c then v else f t' c'
def up1 {α : Type} (f : Nat → α) (t : Nat) (v : α) : Nat → α := fun t' => if t' = t then v else f t'
def CSh (T : Nat) (dr : Nat → Nat) (pl : Nat → Nat → Option Nat) (mu : Nat → Nat → Bool) (lf : Nat → Option (Nat × Nat)) (F : gF) : Prop :=
  T ≤ 8 ∧ F 100 0 = nI T ∧ (∀ t, t < T → F 2 t = nI (dr t)) ∧ (∀ t c, t < 8 → c < 30 → F 3 (t * 30 + c) = oN (pl t c)) ∧ (∀ t c, t < 8 → c < 30 → F 4 (t * 30 + c) = bI (mu t c)) ∧ (∀ c, c < 30 → F 5 c = oN ((lf c).map Prod.fst)) ∧ (∀ c, c < 30 → F 6 c = oN ((lf c).map Prod.snd))
def WSh (T : Nat) (dr : Nat → Nat) (pl : Nat → Nat → Option Nat) (mu : Nat → Nat → Bool) (lf : Nat → Option (Nat × Nat)) : Prop :=
  (∀ t, t < T → dr t ≤ 9) ∧ (∀ t c k, pl t c = some k → k ≤ 9) ∧ (∀ t c, mu t c = true → ¬ pl t c = none) ∧ (∀ c a b, lf c = some (a, b) → a < T ∧ b < T ∧ a ≠ b)
def inB (pl : Nat → Nat → Option Nat) (t c : Nat) : Bool := (pl t c).isSome
def farB (pl : Nat → Nat → Option Nat) (t u c : Nat) : Bool := match pl t c, pl u (c + 1) with
  | some a, some b => decide (c + 1 < 30) && decide (5 < dist a b)
  | _, _ => false
def meetB (pl : Nat → Nat → Option Nat) (t u : Nat) : Bool := anyB (fun c => (inB pl t c && inB pl u c) || (farB pl t u c || farB pl u t c)) 30
def nearB (pl : Nat → Nat → Option Nat) (t u c : Nat) : Bool := match pl t c, pl u c with
  | some a, some b => decide (dist a b < 2)
  | _, _ => false
def besideB (pl : Nat → Nat → Option Nat) (t u : Nat) : Bool := anyB (nearB pl t u) 30
def partner (lf : Nat → Option (Nat × Nat)) (t c : Nat) : Option Nat := match lf c with
  | none => none
  | some (a, b) => if a = t then some b else if b = t then some a else none
section CSHOW
variable {D : va_G} {d : Nat} {Q : Int32 → gF → (Nat → Int64) → Prop} {Qv : gF → (Nat → Int64) → Prop} {F : gF} {G : Nat → Int64} {T : Nat} {dr : Nat → Nat} {pl : Nat → Nat → Option Nat} {mu : Nat → Nat → Bool} {lf : Nat → Option (Nat × Nat)}
theorem plS (w : WSh T dr pl mu lf) {t c k : Nat} (h : pl t c = some k) : k < 2 ^ 31 := by have := w.2.1 t c k h; omega
theorem c_isTrack (s : CSh T dr pl mu lf F) {a : Int32} (h1 : ∀ t, t < T → a = nI t → Q 1 F G) (h0 : ¬ vp_in a T → Q 0 F G) : AMi D (d + 1) nShow_isTrack [.ref 2, .int a] F G Q := by
  have hT := s.1
  refine eShow_isTrack ?_
  rw [s.2.1]
  exact ixcase (by omega) h1 h0
theorem c_isTrack1 (s : CSh T dr pl mu lf F) {t : Nat} (ht : t < T) (h : Q 1 F G) : AMi D (d + 1) nShow_isTrack [.ref 2, .int (nI t)] F G Q :=
  c_isTrack s (fun _ _ _ => h) (fun n => absurd (vp_in_nI ht (by have := s.1; omega)) n)
theorem c_isTrack0 (s : CSh T dr pl mu lf F) (h : Q 0 F G) : AMi D (d + 1) nShow_isTrack [.ref 2, .int (nI T)] F G Q :=
  c_isTrack s (fun t ht e => by have := s.1; have := nI_inj (by omega) (by omega) e; omega) (fun _ => h)
theorem c_placeAt1 (s : CSh T dr pl mu lf F) {t c : Nat} (ht : t < T) (hc : c < 30) (h : Q (oN (pl t c)) F G) : AMi D (d + 2) nShow_placeAt [.ref 2, .int (nI t), .int (nI c)] F G Q := by
  have hT := s.1
  refine eShow_placeAt (c_isTrack1 s ht ⟨fun e => absurd e ne10, fun _ => c_isCue1 hc ⟨fun e => absurd e ne10, fun _ => ?_⟩⟩)
  obtain ⟨e1, e2⟩ := ix30 (t := t) (c := c) (by omega) hc
  refine ⟨e1, ?_⟩
  rw [e2, s.2.2.2.1 t c (by omega) hc]
  exact h
theorem c_isIn1 (s : CSh T dr pl mu lf F) (w : WSh T dr pl mu lf) {t c : Nat} (ht : t < T) (hc : c < 30) (h : Q (bI (inB pl t c)) F G) : AMi D (d + 2) nShow_isIn [.ref 2, .int (nI t), .int (nI c)] F G Q := by
  have hT := s.1
  refine eShow_isIn (c_isTrack1 s ht ⟨fun e => absurd e ne10, fun _ => c_isCue1 hc ⟨fun e => absurd e ne10, fun _ => ?_⟩⟩)
  obtain ⟨e1, e2⟩ := ix30 (t := t) (c := c) (by omega) hc
  refine ⟨e1, ?_⟩
  rw [e2, s.2.2.2.1 t c (by omega) hc, oN_N (fun k hk => plS w hk)]
  unfold inB at h
  cases hp : pl t c with
  | none => rw [hp] at h; exact ⟨fun _ => h, fun e => absurd rfl e⟩
  | some k => rw [hp] at h; exact ⟨fun e => (by cases e), fun _ => h⟩
theorem c_isIn30 (s : CSh T dr pl mu lf F) {t : Nat} (ht : t < T) (h : Q 0 F G) : AMi D (d + 2) nShow_isIn [.ref 2, .int (nI t), .int (nI 30)] F G Q := by
  refine eShow_isIn (c_isTrack1 s ht ⟨fun e => absurd e ne10, fun _ => c_isCue (fun c hc e => ?_) (fun _ => ⟨fun _ => h, fun e => absurd rfl e⟩)⟩)
  have := nI_inj (by omega) (by omega) e
  omega
theorem c_mustAt1 (s : CSh T dr pl mu lf F) {t c : Nat} (ht : t < T) (hc : c < 30) (h : Q (bI (mu t c)) F G) : AMi D (d + 2) nShow_mustAt [.ref 2, .int (nI t), .int (nI c)] F G Q := by
  have hT := s.1
  refine eShow_mustAt (c_isTrack1 s ht ⟨fun e => absurd e ne10, fun _ => c_isCue1 hc ⟨fun e => absurd e ne10, fun _ => ?_⟩⟩)
  obtain ⟨e1, e2⟩ := ix30 (t := t) (c := c) (by omega) hc
  refine ⟨e1, ?_⟩
  rw [e2, s.2.2.2.2.1 t c (by omega) hc]
  exact h
theorem c_lifterIn1 (s : CSh T dr pl mu lf F) {c : Nat} (hc : c < 30) (h : Q (oN ((lf c).map Prod.fst)) F G) : AMi D (d + 2) nShow_lifterIn [.ref 2, .int (nI c)] F G Q := by
  refine eShow_lifterIn (c_isCue1 hc ⟨fun e => absurd e ne10, fun _ => ⟨(ix1 hc (by omega)).1, ?_⟩⟩)
  rw [(ix1 hc (by omega)).2, s.2.2.2.2.2.1 c hc]
  exact h
theorem c_liftedIn1 (s : CSh T dr pl mu lf F) {c : Nat} (hc : c < 30) (h : Q (oN ((lf c).map Prod.snd)) F G) : AMi D (d + 2) nShow_liftedIn [.ref 2, .int (nI c)] F G Q := by
  refine eShow_liftedIn (c_isCue1 hc ⟨fun e => absurd e ne10, fun _ => ⟨(ix1 hc (by omega)).1, ?_⟩⟩)
  rw [(ix1 hc (by omega)).2, s.2.2.2.2.2.2 c hc]
  exact h
theorem lfS (s : CSh T dr pl mu lf F) (w : WSh T dr pl mu lf) {c k : Nat} (h : (lf c).map Prod.fst = some k) : k < 2 ^ 31 := by
  have := s.1
  cases hl : lf c with
  | none => rw [hl] at h; cases h
  | some q => rw [hl] at h; cases h; have := w.2.2.2 c q.1 q.2 hl; omega
theorem lgS (s : CSh T dr pl mu lf F) (w : WSh T dr pl mu lf) {c k : Nat} (h : (lf c).map Prod.snd = some k) : k < 2 ^ 31 := by
  have := s.1
  cases hl : lf c with
  | none => rw [hl] at h; cases h
  | some q => rw [hl] at h; cases h; have := w.2.2.2 c q.1 q.2 hl; omega
theorem c_hasLift1 (s : CSh T dr pl mu lf F) (w : WSh T dr pl mu lf) {c : Nat} (hc : c < 30) (h : Q (bI (lf c).isSome) F G) : AMi D (d + 3) nShow_hasLift [.ref 2, .int (nI c)] F G Q := by
  refine eShow_hasLift (c_lifterIn1 s hc ?_)
  rw [oN_N (fun k hk => lfS s w hk)]
  cases hl : lf c with
  | none => rw [hl] at h; exact ⟨fun _ => h, fun e => absurd rfl e⟩
  | some k => rw [hl] at h; exact ⟨fun e => (by cases e), fun _ => h⟩
theorem c_liftPartner1 (s : CSh T dr pl mu lf F) (w : WSh T dr pl mu lf) {t c : Nat} (ht : t < T) (hc : c < 30) (h : Q (oN (partner lf t c)) F G) : AMi D (d + 3) nShow_liftPartner [.ref 2, .int (nI t), .int (nI c)] F G Q := by
  have hT := s.1
  refine eShow_liftPartner (c_lifterIn1 s hc ?_)
  rw [oN_eq (by omega) (fun k hk => lfS s w hk)]
  unfold partner at h
  cases hl : lf c with
  | none =>
    rw [hl] at h
    refine ⟨fun _ => c_liftedIn1 s hc ?_, fun e => by cases e⟩
    rw [oN_eq (by omega) (fun k hk => lgS s w hk), hl]
    exact ⟨fun _ => h, fun e => by cases e⟩
  | some q =>
    obtain ⟨a, b⟩ := q
    rw [hl] at h
    dsimp only at h
    refine ⟨fun e => c_liftedIn1 s hc ?_, fun e => c_liftedIn1 s hc ?_⟩
    · have e1 : ¬ a = t := fun z => e (by rw [z]; rfl)
      rw [if_neg e1] at h
      rw [oN_eq (by omega) (fun k hk => lgS s w hk), hl]
      refine ⟨fun e2 => ?_, fun e2 => c_lifterIn1 s hc ?_⟩
      · rw [if_neg (fun z => e2 (by rw [z]; rfl))] at h
        exact h
      · rw [if_pos (by cases e2; rfl)] at h
        rw [hl]
        exact h
    · have e1 : a = t := by cases e; rfl
      rw [if_pos e1] at h
      rw [hl]
      exact h
theorem c_tracks (s : CSh T dr pl mu lf F) (h : Q (nI T) F G) : AMi D (d + 1) nShow_tracks [.ref 2] F G Q := eShow_tracks (by rw [s.2.1]; exact h)
theorem c_dressOf1 (s : CSh T dr pl mu lf F) {t : Nat} (ht : t < T) (h : Q (nI (dr t)) F G) : AMi D (d + 2) nShow_dressOf [.ref 2, .int (nI t)] F G Q := by
  have hT := s.1
  refine eShow_dressOf (c_isTrack1 s ht ⟨fun e => absurd e ne10, fun _ => ⟨(ix1 (by omega) (by omega)).1, ?_⟩⟩)
  rw [(ix1 (n := 8) (by omega) (by omega)).2, s.2.2.1 t ht]
  exact h
theorem le30 {i : Nat} (hi : i ≤ 30) : (30 : Int32) ≤ nI i ↔ i = 30 := by
  rw [l30, nI_leI (by omega) (by omega)]
  omega
theorem c_lastCue1 (s : CSh T dr pl mu lf F) (w : WSh T dr pl mu lf) {t : Nat} (ht : t < T) (h : Q (oM (lastB (inB pl t) 30)) F G) : AMi D (d + 3) nShow_lastCue [.ref 2, .int (nI t)] F G Q := by
  refine eShow_lastCue ?_
  have key : ∀ k i, i + k = 30 → AWi D (d + 3) nShow_lastCue 4 [(0, .ref 2), (1, .int (nI t)), (2, .int (oM (lastB (inB pl t) i))), (3, .int (nI i))] [] F G Q := by
    intro k
    induction k with
    | zero =>
      intro i hi
      refine bShow_lastCue_4 ⟨fun _ => ?_, fun e => absurd ((le30 (by omega)).mpr (by omega)) e⟩
      rw [show i = 30 by omega]
      exact h
    | succ k ih =>
      intro i hi
      refine bShow_lastCue_4 ⟨fun e => absurd ((le30 (by omega)).mp e) (by omega), fun _ => c_isIn1 s w ht (by omega) ?_⟩
      have hn := ih (i + 1) (by omega)
      rw [← nI_1] at hn
      rw [lastB] at hn
      refine ⟨fun e => ?_, fun e => ?_⟩
      · rw [bI_0] at e
        rw [if_neg (by rw [e]; decide)] at hn
        exact hn
      · rw [bI_n0] at e
        rw [if_pos e] at hn
        exact hn
  exact key 30 0 (by omega)
theorem c_countCues1 (s : CSh T dr pl mu lf F) (w : WSh T dr pl mu lf) {t : Nat} (ht : t < T) (h : Q (nI (cntB (inB pl t) 30)) F G) : AMi D (d + 3) nShow_countCues [.ref 2, .int (nI t)] F G Q := by
  refine eShow_countCues ?_
  have key : ∀ k i, i + k = 30 → AWi D (d + 3) nShow_countCues 4 [(0, .ref 2), (1, .int (nI t)), (2, .int (nI (cntB (inB pl t) i))), (3, .int (nI i))] [] F G Q := by
    intro k
    induction k with
    | zero =>
      intro i hi
      refine bShow_countCues_4 ⟨fun _ => ?_, fun e => absurd ((le30 (by omega)).mpr (by omega)) e⟩
      rw [show i = 30 by omega]
      exact h
    | succ k ih =>
      intro i hi
      refine bShow_countCues_4 ⟨fun e => absurd ((le30 (by omega)).mp e) (by omega), fun _ => c_isIn1 s w ht (by omega) ?_⟩
      have hn := ih (i + 1) (by omega)
      rw [← nI_1] at hn
      rw [cntB] at hn
      refine ⟨fun e => ?_, fun e => ?_⟩
      · rw [bI_0] at e
        rw [if_neg (by rw [e]; decide), ← nI_add] at hn
        exact hn
      · rw [bI_n0] at e
        rw [if_pos e, ← nI_add] at hn
        exact hn
  exact key 30 0 (by omega)
theorem c_countMusts1 (s : CSh T dr pl mu lf F) {t : Nat} (ht : t < T) (h : Q (nI (cntB (mu t) 30)) F G) : AMi D (d + 3) nShow_countMusts [.ref 2, .int (nI t)] F G Q := by
  refine eShow_countMusts ?_
  have key : ∀ k i, i + k = 30 → AWi D (d + 3) nShow_countMusts 4 [(0, .ref 2), (1, .int (nI t)), (2, .int (nI (cntB (mu t) i))), (3, .int (nI i))] [] F G Q := by
    intro k
    induction k with
    | zero =>
      intro i hi
      refine bShow_countMusts_4 ⟨fun _ => ?_, fun e => absurd ((le30 (by omega)).mpr (by omega)) e⟩
      rw [show i = 30 by omega]
      exact h
    | succ k ih =>
      intro i hi
      refine bShow_countMusts_4 ⟨fun e => absurd ((le30 (by omega)).mp e) (by omega), fun _ => c_mustAt1 s ht (by omega) ?_⟩
      have hn := ih (i + 1) (by omega)
      rw [← nI_1] at hn
      rw [cntB, ← nI_add] at hn
      have e : nI (if mu t i = true then 1 else 0) = bI (mu t i) := by cases mu t i <;> rfl
      rw [e] at hn
      exact hn
  exact key 30 0 (by omega)
theorem c_countLifts1 (s : CSh T dr pl mu lf F) (w : WSh T dr pl mu lf) (h : Q (nI (cntB (fun c => (lf c).isSome) 30)) F G) : AMi D (d + 4) nShow_countLifts [.ref 2] F G Q := by
  refine eShow_countLifts ?_
  have key : ∀ k i, i + k = 30 → AWi D (d + 4) nShow_countLifts 4 [(0, .ref 2), (1, .int (nI (cntB (fun c => (lf c).isSome) i))), (2, .int (nI i))] [] F G Q := by
    intro k
    induction k with
    | zero =>
      intro i hi
      refine bShow_countLifts_4 ⟨fun _ => ?_, fun e => absurd ((le30 (by omega)).mpr (by omega)) e⟩
      rw [show i = 30 by omega]
      exact h
    | succ k ih =>
      intro i hi
      refine bShow_countLifts_4 ⟨fun e => absurd ((le30 (by omega)).mp e) (by omega), fun _ => c_hasLift1 s w (by omega) ?_⟩
      have hn := ih (i + 1) (by omega)
      rw [← nI_1] at hn
      rw [cntB] at hn
      refine ⟨fun e => ?_, fun e => ?_⟩
      · rw [bI_0] at e
        rw [if_neg (by rw [e]; decide), ← nI_add] at hn
        exact hn
      · rw [bI_n0] at e
        rw [if_pos e, ← nI_add] at hn
        exact hn
  exact key 30 0 (by omega)
theorem dist_lt {a b : Nat} (ha : a ≤ 9) (hb : b ≤ 9) : dist a b ≤ 9 := by unfold dist; split <;> omega
theorem c_isFarStep1 (s : CSh T dr pl mu lf F) (w : WSh T dr pl mu lf) {t u c : Nat} (ht : t < T) (hu : u < T) (hc : c < 30) (h : Q (bI (farB pl t u c)) F G) : AMi D (d + 3) nShow_isFarStep [.ref 2, .int (nI t), .int (nI u), .int (nI c)] F G Q := by
  refine eShow_isFarStep (c_isIn1 s w ht hc ?_)
  unfold farB at h
  unfold inB
  cases hp : pl t c with
  | none => rw [hp] at h; exact ⟨fun _ => h, fun e => absurd rfl e⟩
  | some a =>
    refine ⟨fun e => absurd e ne10, fun _ => ?_⟩
    rw [nI_1]
    by_cases h29 : c + 1 < 30
    · refine c_isIn1 s w hu h29 ?_
      unfold inB
      cases hq : pl u (c + 1) with
      | none => rw [hp, hq] at h; exact ⟨fun _ => h, fun e => absurd rfl e⟩
      | some b =>
        rw [hp, hq] at h
        have ha := w.2.1 _ _ _ hp
        have hb := w.2.1 _ _ _ hq
        refine ⟨fun e => absurd e ne10, fun _ => c_placeAt1 s ht hc (c_placeAt1 s hu h29 ?_)⟩
        rw [hp, hq]
        rw [oN_some, oN_some, abs_sub (by omega) (by omega), l5, nI_leI (by have := dist_lt ha hb; omega) (by omega)]
        simp only [h29, decide_true, Bool.true_and] at h
        refine ⟨fun e => ?_, fun e => ?_⟩
        · rw [decide_eq_false (by omega)] at h; exact h
        · rw [decide_eq_true (by omega)] at h; exact h
    · have e30 : c + 1 = 30 := by omega
      rw [e30]
      refine c_isIn30 s hu ⟨fun _ => ?_, fun e => absurd rfl e⟩
      cases hq : pl u (c + 1) with
      | none => rw [hp, hq] at h; exact h
      | some b => rw [hp, hq] at h; simp only [h29, decide_false, Bool.false_and] at h; exact h
theorem c_canBeOne1 (s : CSh T dr pl mu lf F) (w : WSh T dr pl mu lf) {t u : Nat} (ht : t < T) (hu : u < T) (h : Q (bI (!meetB pl t u)) F G) : AMi D (d + 4) nShow_canBeOnePersons [.ref 2, .int (nI t), .int (nI u)] F G Q := by
  refine eShow_canBeOnePersons ?_
  have bad : ∀ c, c < 30 → ((inB pl t c && inB pl u c) || (farB pl t u c || farB pl u t c)) = true → Q 0 F G := by
    intro c hc e
    have e1 : meetB pl t u = true := anyB_hit hc e
    rw [e1] at h
    exact h
  have key : ∀ k i, i + k = 30 → anyB (fun c => (inB pl t c && inB pl u c) || (farB pl t u c || farB pl u t c)) i = false → AWi D (d + 4) nShow_canBeOnePersons 2 [(0, .ref 2), (1, .int (nI t)), (2, .int (nI u)), (3, .int (nI i))] [] F G Q := by
    intro k
    induction k with
    | zero =>
      intro i hi ha
      refine bShow_canBeOnePersons_2 ⟨fun _ => ?_, fun e => absurd ((le30 (by omega)).mpr (by omega)) e⟩
      rw [show i = 30 by omega] at ha
      have e1 : meetB pl t u = false := ha
      rw [e1] at h
      exact h
    | succ k ih =>
      intro i hi ha
      have rest : (inB pl t i && inB pl u i) = false → AWi D (d + 4) nShow_canBeOnePersons 28 [(0, .ref 2), (1, .int (nI t)), (2, .int (nI u)), (3, .int (nI i))] [] F G Q := by
        intro hz
        refine bShow_canBeOnePersons_28 (c_isFarStep1 s w ht hu (by omega) ⟨fun e => ?_, fun e => c_isFarStep1 s w hu ht (by omega) ⟨fun e2 => ?_, fun e2 => ?_⟩⟩)
        · rw [bI_n0] at e
          exact bad i (by omega) (by rw [e]; simp)
        · rw [bI_0] at e e2
          rw [nI_1]
          exact ih (i + 1) (by omega) (anyB_s ha (by rw [hz, e, e2]; rfl))
        · rw [bI_n0] at e2
          exact bad i (by omega) (by rw [e2]; simp)
      refine bShow_canBeOnePersons_2 ⟨fun e => absurd ((le30 (by omega)).mp e) (by omega), fun _ => c_isIn1 s w ht (by omega) ⟨fun e => ?_, fun e => c_isIn1 s w hu (by omega) ⟨fun e2 => ?_, fun e2 => ?_⟩⟩⟩
      · rw [bI_0] at e
        exact rest (by rw [e]; rfl)
      · rw [bI_0] at e2
        exact rest (by rw [e2]; simp)
      · rw [bI_n0] at e e2
        exact bad i (by omega) (by rw [e, e2]; rfl)
  exact key 30 0 (by omega) rfl
theorem c_canBeFoes1 (s : CSh T dr pl mu lf F) (w : WSh T dr pl mu lf) {t u : Nat} (ht : t < T) (hu : u < T) (h : Q (bI (!besideB pl t u)) F G) : AMi D (d + 3) nShow_canBeFoes [.ref 2, .int (nI t), .int (nI u)] F G Q := by
  refine eShow_canBeFoes ?_
  have key : ∀ k i, i + k = 30 → anyB (nearB pl t u) i = false → AWi D (d + 3) nShow_canBeFoes 2 [(0, .ref 2), (1, .int (nI t)), (2, .int (nI u)), (3, .int (nI i))] [] F G Q := by
    intro k
    induction k with
    | zero =>
      intro i hi ha
      refine bShow_canBeFoes_2 ⟨fun _ => ?_, fun e => absurd ((le30 (by omega)).mpr (by omega)) e⟩
      rw [show i = 30 by omega] at ha
      have e1 : besideB pl t u = false := ha
      rw [e1] at h
      exact h
    | succ k ih =>
      intro i hi ha
      have go : nearB pl t u i = false → AWi D (d + 3) nShow_canBeFoes 2 [(0, .ref 2), (1, .int (nI t)), (2, .int (nI u)), (3, .int (nI i + 1))] [] F G Q := by
        intro hz
        rw [nI_1]
        exact ih (i + 1) (by omega) (anyB_s ha hz)
      refine bShow_canBeFoes_2 ⟨fun e => absurd ((le30 (by omega)).mp e) (by omega), fun _ => c_isIn1 s w ht (by omega) ⟨fun e => ?_, fun e => c_isIn1 s w hu (by omega) ⟨fun e2 => ?_, fun e2 => ?_⟩⟩⟩
      · rw [bI_0] at e
        refine go ?_
        unfold nearB
        unfold inB at e
        cases hp : pl t i with
        | none => rfl
        | some a => rw [hp] at e; cases e
      · rw [bI_0] at e2
        refine go ?_
        unfold nearB
        unfold inB at e2
        cases hp : pl t i with
        | none => rfl
        | some a =>
          cases hq : pl u i with
          | none => rfl
          | some b => rw [hq] at e2; cases e2
      · rw [bI_n0] at e e2
        refine c_placeAt1 s ht (by omega) (c_placeAt1 s hu (by omega) ?_)
        unfold inB at e e2
        cases hp : pl t i with
        | none => rw [hp] at e; cases e
        | some a =>
          cases hq : pl u i with
          | none => rw [hq] at e2; cases e2
          | some b =>
            have ha9 := w.2.1 _ _ _ hp
            have hb9 := w.2.1 _ _ _ hq
            have hnear : nearB pl t u i = decide (dist a b < 2) := by unfold nearB; rw [hp, hq]
            rw [oN_some, oN_some, abs_sub (by omega) (by omega), l2, nI_leI (by omega) (by have := dist_lt ha9 hb9; omega)]
            refine ⟨fun q => go (by rw [hnear]; exact decide_eq_false (by omega)), fun q => ?_⟩
            have e1 : besideB pl t u = true := anyB_hit (c := i) (by omega) (by rw [hnear]; exact decide_eq_true (by omega))
            rw [e1] at h
            exact h
  exact key 30 0 (by omega) rfl
end CSHOW
