/-! THE MODEL: its pictures, and its small methods -/
def MSh (T : Nat) (dr : Nat → Nat) (pl : Nat → Nat → Option Nat) (mu : Nat → Nat → Bool) (lf : Nat → Option (Nat × Nat)) (F : gF) : Prop :=
  T ≤ 8 ∧ F 110 0 = nI T ∧ (∀ t, t < T → F 39 t = nI (dr t)) ∧ (∀ t c, t < 8 → c < 30 → F 40 (t * 30 + c) = oM (pl t c)) ∧ (∀ t c, t < 8 → c < 30 → F 41 (t * 30 + c) = bI (mu t c)) ∧ (∀ c, c < 30 → F 42 c = oM ((lf c).map Prod.fst)) ∧ (∀ c a b, c < 30 → lf c = some (a, b) → F 43 c = nI b)
def MCo (P Y : Nat) (kd sz : Nat → Nat) (ow : Nat → Option Nat) (dd rh : Nat → Nat → Option Nat) (fm ou : Nat → Nat) (F : gF) : Prop :=
  P ≤ 10 ∧ F 111 0 = nI P ∧ Y ≤ 400 ∧ F 112 0 = nI Y ∧ (∀ p, p < P → F 44 p = nI (kd p)) ∧ (∀ p, p < P → F 45 p = nI (sz p)) ∧ (∀ p, p < P → F 46 p = oM (ow p)) ∧ (∀ p t, p < 10 → t < 8 → F 47 (p * 8 + t) = oM (dd p t)) ∧ (∀ p q, p < 10 → q < 10 → F 48 (p * 10 + q) = oM (rh p q)) ∧ (∀ p, p < 10 → F 49 p = nI (fm p)) ∧ (∀ p, p < P → F 50 p = nI (ou p))
def fromB (pl : Nat → Nat → Option Nat) (t m : Nat) : Bool := anyB (fun c => decide (m ≤ c) && inB pl t c) 30
theorem in_le {a : Int32} {n : Nat} (hn : n < 2 ^ 30) : (0 ≤ a ∧ a ≤ nI n - 1) ↔ vp_in a n := by
  have e := pk_sub_toInt (a := n) (b := 1) hn (by omega)
  rw [vp_in_iff, l1, Int32.le_iff_toInt_le, Int32.le_iff_toInt_le, e]
  simp
  omega
theorem in_leK {a : Int32} (n : Nat) (m : Int32) (hm : m = nI n) (hn : n < 2 ^ 30) : (0 ≤ a ∧ a ≤ m) ↔ vp_in a (n + 1) := by
  rw [hm, vp_in_iff, Int32.le_iff_toInt_le, Int32.le_iff_toInt_le, nI_toInt (by omega)]
  simp
  omega
theorem jx8 {p t : Nat} (hp : p < 10) (ht : t < 8) : vp_in (8 * nI p + nI t) 80 ∧ (8 * nI p + nI t).toNatClampNeg = p * 8 + t := by
  simp only [g_lit, pk_mul, nI_add]
  rw [Nat.mul_comm 8 p]
  exact ⟨vp_in_nI (by omega) (by omega), nI_clamp (by omega)⟩
theorem jx10 {p q : Nat} (hp : p < 10) (hq : q < 10) : vp_in (10 * nI p + nI q) 100 ∧ (10 * nI p + nI q).toNatClampNeg = p * 10 + q := by
  simp only [g_lit, pk_mul, nI_add]
  rw [Nat.mul_comm 10 p]
  exact ⟨vp_in_nI (by omega) (by omega), nI_clamp (by omega)⟩
section MSHOW
variable {D : va_G} {d : Nat} {Q : Int32 → gF → (Nat → Int64) → Prop} {Qv : gF → (Nat → Int64) → Prop} {F F' : gF} {G : Nat → Int64} {T P Y : Nat} {dr : Nat → Nat} {pl : Nat → Nat → Option Nat} {mu : Nat → Nat → Bool} {lf : Nat → Option (Nat × Nat)} {kd sz : Nat → Nat} {ow : Nat → Option Nat} {dd rh : Nat → Nat → Option Nat} {fm ou : Nat → Nat}
theorem MSh_fr {ks : List Nat} (hf : Fr ks F F') (hd : ∀ k ∈ [39, 40, 41, 42, 43, 110], k ∉ ks) (s : MSh T dr pl mu lf F) : MSh T dr pl mu lf F' := by
  obtain ⟨h1, h2, h3, h4, h5, h6, h7⟩ := s
  refine ⟨h1, ?_, ?_, ?_, ?_, ?_, ?_⟩
  · rw [hf 110 (hd 110 (by decide))]; exact h2
  · rw [hf 39 (hd 39 (by decide))]; exact h3
  · rw [hf 40 (hd 40 (by decide))]; exact h4
  · rw [hf 41 (hd 41 (by decide))]; exact h5
  · rw [hf 42 (hd 42 (by decide))]; exact h6
  · rw [hf 43 (hd 43 (by decide))]; exact h7
theorem MCo_fr {ks : List Nat} (hf : Fr ks F F') (hd : ∀ k ∈ [44, 45, 46, 47, 48, 49, 50, 111, 112], k ∉ ks) (s : MCo P Y kd sz ow dd rh fm ou F) : MCo P Y kd sz ow dd rh fm ou F' := by
  obtain ⟨h1, h2, h3, h4, h5, h6, h7, h8, h9, h10, h11⟩ := s
  refine ⟨h1, ?_, h3, ?_, ?_, ?_, ?_, ?_, ?_, ?_, ?_⟩
  · rw [hf 111 (hd 111 (by decide))]; exact h2
  · rw [hf 112 (hd 112 (by decide))]; exact h4
  · rw [hf 44 (hd 44 (by decide))]; exact h5
  · rw [hf 45 (hd 45 (by decide))]; exact h6
  · rw [hf 46 (hd 46 (by decide))]; exact h7
  · rw [hf 47 (hd 47 (by decide))]; exact h8
  · rw [hf 48 (hd 48 (by decide))]; exact h9
  · rw [hf 49 (hd 49 (by decide))]; exact h10
  · rw [hf 50 (hd 50 (by decide))]; exact h11
theorem m_isIn {a b c : Int32} (h1 : b ≤ a → a ≤ c → Q 1 F G) (h0 : ¬ (b ≤ a ∧ a ≤ c) → Q 0 F G) : AMi D (d + 1) nModel_isIn [.int a, .int b, .int c] F G Q := by
  refine eModel_isIn ⟨fun q => h0 (fun z => ?_), fun q => ⟨fun q2 => h0 (fun z => ?_), fun q2 => h1 (Int32.not_lt.mp q) (Int32.not_lt.mp q2)⟩⟩
  · exact Int32.not_lt.mpr z.1 q
  · exact Int32.not_lt.mpr z.2 q2
theorem m_ix {n : Nat} (hn : n < 2 ^ 30) {a m : Int32} (hm : (0 ≤ a ∧ a ≤ m) ↔ vp_in a n) (h1 : ∀ t, t < n → a = nI t → Q 1 F G) (h0 : ¬ vp_in a n → Q 0 F G) : AMi D (d + 1) nModel_isIn [.int a, .int 0, .int m] F G (fun x F G => narrow .boolean (.int x) = .int x ∧ Q x F G) := by
  refine m_isIn (fun q1 q2 => ⟨bI_nar true, ?_⟩) (fun q => ⟨bI_nar false, h0 (fun z => q (hm.mpr z))⟩)
  obtain ⟨j, hj, e⟩ := vp_in_of (hm.mp ⟨q1, q2⟩) (by omega)
  exact h1 j hj e
theorem m_isTrack (s : MSh T dr pl mu lf F) {a : Int32} (h1 : ∀ t, t < T → a = nI t → Q 1 F G) (h0 : ¬ vp_in a T → Q 0 F G) : AMi D (d + 2) nModel_isTrack [.ref 39, .int a] F G Q := by
  have hT := s.1
  refine eModel_isTrack ?_
  rw [s.2.1]
  exact m_ix (by omega) (in_le (by omega)) h1 h0
theorem m_isTrack1 (s : MSh T dr pl mu lf F) {t : Nat} (ht : t < T) (h : Q 1 F G) : AMi D (d + 2) nModel_isTrack [.ref 39, .int (nI t)] F G Q :=
  m_isTrack s (fun _ _ _ => h) (fun n => absurd (vp_in_nI ht (by have := s.1; omega)) n)
theorem m_isTrack0 (s : MSh T dr pl mu lf F) {a : Int32} (ha : ¬ vp_in a T) (h : Q 0 F G) : AMi D (d + 2) nModel_isTrack [.ref 39, .int a] F G Q :=
  m_isTrack s (fun t ht e => absurd (by rw [e]; exact vp_in_nI ht (by have := s.1; omega)) ha) (fun _ => h)
theorem m_isPerson (s : MCo P Y kd sz ow dd rh fm ou F) {a : Int32} (h1 : ∀ t, t < P → a = nI t → Q 1 F G) (h0 : ¬ vp_in a P → Q 0 F G) : AMi D (d + 2) nModel_isPerson [.ref 39, .int a] F G Q := by
  have hT := s.1
  refine eModel_isPerson ?_
  rw [s.2.1]
  exact m_ix (by omega) (in_le (by omega)) h1 h0
theorem m_isPerson1 (s : MCo P Y kd sz ow dd rh fm ou F) {t : Nat} (ht : t < P) (h : Q 1 F G) : AMi D (d + 2) nModel_isPerson [.ref 39, .int (nI t)] F G Q :=
  m_isPerson s (fun _ _ _ => h) (fun n => absurd (vp_in_nI ht (by have := s.1; omega)) n)
theorem m_isPerson0 (s : MCo P Y kd sz ow dd rh fm ou F) {a : Int32} (ha : ¬ vp_in a P) (h : Q 0 F G) : AMi D (d + 2) nModel_isPerson [.ref 39, .int a] F G Q :=
  m_isPerson s (fun t ht e => absurd (by rw [e]; exact vp_in_nI ht (by have := s.1; omega)) ha) (fun _ => h)
theorem m_isCue1 {c : Nat} (hc : c < 30) (h : Q 1 F G) : AMi D (d + 2) nModel_isCue [.int (nI c)] F G Q :=
  eModel_isCue (m_ix (n := 30) (by omega) (in_leK 29 29 rfl (by omega)) (fun _ _ _ => h) (fun n => absurd (vp_in_nI hc (by omega)) n))
theorem m_isCue0 {a : Int32} (ha : ¬ vp_in a 30) (h : Q 0 F G) : AMi D (d + 2) nModel_isCue [.int a] F G Q :=
  eModel_isCue (m_ix (n := 30) (by omega) (in_leK 29 29 rfl (by omega)) (fun t ht e => absurd (by rw [e]; exact vp_in_nI ht (by omega)) ha) (fun _ => h))
theorem m_isSheet1 {c : Nat} (hc : c < 2) (h : Q 1 F G) : AMi D (d + 2) nModel_isSheet [.int (nI c)] F G Q :=
  eModel_isSheet (m_ix (n := 2) (by omega) (in_leK 1 1 rfl (by omega)) (fun _ _ _ => h) (fun n => absurd (vp_in_nI hc (by omega)) n))
theorem m_isSheet0 {a : Int32} (ha : ¬ vp_in a 2) (h : Q 0 F G) : AMi D (d + 2) nModel_isSheet [.int a] F G Q :=
  eModel_isSheet (m_ix (n := 2) (by omega) (in_leK 1 1 rfl (by omega)) (fun t ht e => absurd (by rw [e]; exact vp_in_nI ht (by omega)) ha) (fun _ => h))
theorem m_far1 {a b : Nat} (ha : a < 2 ^ 30) (hb : b < 2 ^ 30) (h : Q (nI (dist a b)) F G) : AMi D (d + 1) nModel_far [.int (nI a), .int (nI b)] F G Q := by
  refine eModel_far ?_
  rw [nI_leI (by omega) (by omega)]
  unfold dist at h
  refine ⟨fun e => ?_, fun e => ?_⟩
  · rw [pk_sub e]
    rw [if_neg (by omega)] at h
    exact h
  · rw [pk_sub (by omega)]
    rw [if_pos (by omega)] at h
    exact h
theorem m_is1 (s : MSh T dr pl mu lf F) (w : WSh T dr pl mu lf) {t c : Nat} (ht : t < T) (hc : c < 30) (h : Q (bI (inB pl t c)) F G) : AMi D (d + 1) nModel_is [.ref 39, .int (nI t), .int (nI c)] F G Q := by
  have hT := s.1
  obtain ⟨e1, e2⟩ := jx30 (t := t) (c := c) (by omega) hc
  refine eModel_is ⟨e1, ?_⟩
  rw [e2, s.2.2.2.1 t c (by omega) hc, oM_neg (fun k hk => plS w hk)]
  unfold inB at h
  cases hp : pl t c with
  | none => rw [hp] at h; exact ⟨fun _ => h, fun e => absurd rfl e⟩
  | some k => rw [hp] at h; exact ⟨fun e => (by cases e), fun _ => h⟩
theorem m_isSwing1 (s : MCo P Y kd sz ow dd rh fm ou F) (w : WCo T P Y kd sz ow dd rh fm ou) {p : Nat} (hp : p < P) (h : Q (bI (ofK kd p 2)) F G) : AMi D (d + 1) nModel_isSwing [.ref 39, .int (nI p)] F G Q := by
  have hP := s.1
  have hk3 := w.1 p hp
  have hi := ix1 (n := 10) (c := p) (by omega) (by omega)
  refine eModel_isSwing ⟨hi.1, ?_⟩
  rw [hi.2, s.2.2.2.2.1 p hp, l2, nI_eq (by omega) (by omega), l3, nI_eq (by omega) (by omega)]
  unfold ofK at h
  refine ⟨fun e => ?_, fun e => ⟨hi.1, fun e2 => ?_, fun e2 => ?_⟩⟩
  · simp only [e, decide_true, Bool.true_or, Bool.or_true] at h; exact h
  · simp [e, e2] at h; exact h
  · simp [e2] at h; exact h
theorem m_owner1 (s : MCo P Y kd sz ow dd rh fm ou F) (w : WCo T P Y kd sz ow dd rh fm ou) (hT : T ≤ 8) {t : Nat} (ht : t < 2 ^ 31) (h : Q (oM (ownerF ow t P)) F G) : AMi D (d + 1) nModel_owner [.ref 39, .int (nI t)] F G Q := by
  have hP := s.1
  refine eModel_owner ?_
  have key : ∀ k i, i + k = P → AWi D (d + 1) nModel_owner 4 [(0, .ref 39), (1, .int (nI t)), (2, .int (oM (firstB (fun p => decide (ow p = some t)) i))), (3, .int (nI i))] [] F G Q := by
    intro k
    induction k with
    | zero =>
      intro i hi
      refine bModel_owner_4 ?_
      rw [s.2.1, nI_leI (by omega) (by omega)]
      refine ⟨fun _ => ?_, fun e => absurd (by omega) e⟩
      rw [show i = P by omega]
      exact h
    | succ k ih =>
      intro i hi
      have hx := ix1 (n := 10) (c := i) (by omega) (by omega)
      refine bModel_owner_4 ?_
      rw [s.2.1, nI_leI (by omega) (by omega)]
      refine ⟨fun e => absurd e (by omega), fun _ => ⟨hx.1, ?_⟩⟩
      rw [hx.2, s.2.2.2.2.2.2.1 i (by omega), oM_eq ht (fun k hk => by have := w.2.2.1 i k hk; omega)]
      have hn := ih (i + 1) (by omega)
      rw [← nI_1, firstB] at hn
      refine ⟨fun e => ?_, fun e => ?_⟩
      · cases hf : firstB (fun p => decide (ow p = some t)) i with
        | some j => rw [hf] at hn; exact hn
        | none => rw [hf] at hn; dsimp only at hn; rw [if_neg (by simpa using e)] at hn; exact hn
      · cases hf : firstB (fun p => decide (ow p = some t)) i with
        | some j =>
          have := firstB_lt hf
          have e2 : ow j = some t := by simpa using this.2
          have := w.2.2.2.1 i j t e e2
          omega
        | none => rw [hf] at hn; dsimp only at hn; rw [if_pos (by simpa using e)] at hn; exact hn
  exact key P 0 (by omega)
theorem m_knows1 (s : MCo P Y kd sz ow dd rh fm ou F) (w : WCo T P Y kd sz ow dd rh fm ou) {p t : Nat} (hp : p < P) (ht : t < 8) (h : Q (bI (dd p t).isSome) F G) : AMi D (d + 1) nModel_knows [.ref 39, .int (nI p), .int (nI t)] F G Q := by
  have hP := s.1
  have hY := s.2.2.1
  obtain ⟨e1, e2⟩ := jx8 (p := p) (t := t) (by omega) ht
  refine eModel_knows ⟨e1, ?_⟩
  rw [e2, s.2.2.2.2.2.2.2.1 p t (by omega) ht, oM_neg (fun k hk => by have := w.2.2.2.2.1 p t k hk; omega)]
  cases hd : dd p t with
  | none => rw [hd] at h; exact ⟨fun _ => h, fun e => absurd rfl e⟩
  | some k => rw [hd] at h; exact ⟨fun e => (by cases e), fun _ => h⟩
theorem m_isFresh1 (s : MCo P Y kd sz ow dd rh fm ou F) (w : WCo T P Y kd sz ow dd rh fm ou) {p t : Nat} (hp : p < P) (ht : t < 8) (h : Q (bI (freshB Y kd dd p t)) F G) : AMi D (d + 2) nModel_isFresh [.ref 39, .int (nI p), .int (nI t)] F G Q := by
  have hP := s.1
  have hY := s.2.2.1
  obtain ⟨e1, e2⟩ := jx8 (p := p) (t := t) (by omega) ht
  refine eModel_isFresh (m_knows1 s w hp ht ?_)
  unfold freshB at h
  cases hd : dd p t with
  | none => rw [hd] at h; exact ⟨fun _ => h, fun e => absurd rfl e⟩
  | some y =>
    rw [hd] at h
    dsimp only at h
    have hy := w.2.2.2.2.1 p t y hd
    refine ⟨fun e => absurd e ne10, fun _ => ⟨e1, m_isSwing1 s w hp ?_⟩⟩
    rw [e2, s.2.2.2.2.2.2.2.1 p t (by omega) ht, s.2.2.2.1, hd, oM_some, pk_sub hy]
    refine ⟨fun e => bModel_isFresh_40 ?_, fun e => bModel_isFresh_40 ?_⟩
    · rw [bI_0] at e
      rw [e] at h
      rw [l30, nI_leI (by omega) (by omega)]
      refine ⟨fun q => ?_, fun q => ?_⟩
      · rw [decide_eq_false (by simp; omega)] at h; exact h
      · rw [decide_eq_true (by simp; omega)] at h; exact h
    · rw [bI_n0] at e
      rw [e] at h
      rw [l60, nI_leI (by omega) (by omega)]
      refine ⟨fun q => ?_, fun q => ?_⟩
      · rw [decide_eq_false (by simp; omega)] at h; exact h
      · rw [decide_eq_true (by simp; omega)] at h; exact h
theorem m_isReh1 (s : MCo P Y kd sz ow dd rh fm ou F) (w : WCo T P Y kd sz ow dd rh fm ou) {p q : Nat} (hp : p < P) (hq : q < P) (h : Q (bI (pairB Y rh p q)) F G) : AMi D (d + 1) nModel_isRehearsed [.ref 39, .int (nI p), .int (nI q)] F G Q := by
  have hP := s.1
  have hY := s.2.2.1
  obtain ⟨e1, e2⟩ := jx10 (p := p) (q := q) (by omega) (by omega)
  refine eModel_isRehearsed ⟨e1, ?_⟩
  rw [e2, s.2.2.2.2.2.2.2.2.1 p q (by omega) (by omega), s.2.2.2.1]
  unfold pairB at h
  cases hr : rh p q with
  | none => rw [hr] at h; exact ⟨fun _ => h, fun e => absurd (by decide) e⟩
  | some y =>
    rw [hr] at h
    dsimp only at h
    have := w.2.2.2.2.2.1 p q y hr
    rw [oM_some, pk_sub this, l30, nI_leI (by omega) (by omega)]
    refine ⟨fun e => absurd e (nI_pos (by omega)), fun _ => ⟨fun z => ?_, fun z => ?_⟩⟩
    · rw [decide_eq_false (by omega)] at h; exact h
    · rw [decide_eq_true (by omega)] at h; exact h
theorem m_canHave1 (s : MSh T dr pl mu lf F) (v : MCo P Y kd sz ow dd rh fm ou F) (ws : WSh T dr pl mu lf) (w : WCo T P Y kd sz ow dd rh fm ou) {p t : Nat} (hp : p < P) (ht : t < T) (h : Q (bI (playB sz ow dd p t (dr t))) F G) : AMi D (d + 2) nModel_canHave [.ref 39, .int (nI p), .int (nI t)] F G Q := by
  have hT := s.1
  have hP := v.1
  have h9 := w.2.1 p hp
  have hd9 := ws.1 t ht
  have hip := ix1 (n := 10) (c := p) (by omega) (by omega)
  have hit := ix1 (n := 8) (c := t) (by omega) (by omega)
  unfold playB at h
  have fin : (decide (ow p = some t) || (dd p t).isSome) = true → AWi D (d + 2) nModel_canHave 19 [(0, .ref 39), (1, .int (nI p)), (2, .int (nI t))] [] F G Q := by
    intro hz
    rw [hz, Bool.true_and] at h
    refine bModel_canHave_19 ⟨hip.1, hit.1, ?_⟩
    rw [hip.2, hit.2, v.2.2.2.2.2.1 p hp, s.2.2.1 t ht]
    refine m_far1 (by omega) (by omega) ?_
    rw [l1, nI_ltI (by omega) (by have := dist_lt h9 hd9; omega)]
    refine ⟨fun e => ?_, fun e => ?_⟩
    · rw [decide_eq_false (by omega)] at h; exact h
    · rw [decide_eq_true (by omega)] at h; exact h
  refine eModel_canHave ⟨hip.1, ?_⟩
  rw [hip.2, v.2.2.2.2.2.2.1 p hp, oM_eq (by omega) (fun k hk => by have := w.2.2.1 p k hk; omega)]
  refine ⟨fun e => fin (by rw [decide_eq_true e]; rfl), fun e => m_knows1 v w hp (by omega) ⟨fun e2 => ?_, fun e2 => fin ?_⟩⟩
  · rw [bI_0] at e2; rw [decide_eq_false e, e2] at h; exact h
  · rw [bI_n0] at e2; rw [e2]; simp
theorem m_isInFrom1 (s : MSh T dr pl mu lf F) (w : WSh T dr pl mu lf) {t m : Nat} (ht : t < T) (hm : m ≤ 30) (h : Q (bI (fromB pl t m)) F G) : AMi D (d + 2) nModel_isInFrom [.ref 39, .int (nI t), .int (nI m)] F G Q := by
  refine eModel_isInFrom ?_
  have key : ∀ k i, m ≤ i → i + k = 30 → AWi D (d + 2) nModel_isInFrom 5 [(0, .ref 39), (1, .int (nI t)), (2, .int (nI m)), (3, .int (bI (anyB (fun c => decide (m ≤ c) && inB pl t c) i))), (4, .int (nI i))] [] F G Q := by
    intro k
    induction k with
    | zero =>
      intro i hmi hi
      refine bModel_isInFrom_5 ⟨fun _ => ⟨bI_nar _, ?_⟩, fun e => absurd ((le30 (by omega)).mpr (by omega)) e⟩
      rw [show i = 30 by omega]
      exact h
    | succ k ih =>
      intro i hmi hi
      have hn := ih (i + 1) (by omega) (by omega)
      rw [← nI_1, anyB] at hn
      refine bModel_isInFrom_5 ⟨fun e => absurd ((le30 (by omega)).mp e) (by omega), fun _ => ⟨fun e => ?_, fun e => m_is1 s w ht (by omega) ⟨fun e2 => ?_, fun e2 => ?_⟩⟩⟩
      · rw [bI_n0] at e
        rw [e, Bool.true_or] at hn
        exact hn
      · rw [bI_0] at e e2
        rw [e, e2, Bool.and_false, Bool.false_or] at hn
        exact hn
      · rw [bI_0] at e
        rw [bI_n0] at e2
        rw [e, e2, decide_eq_true hmi, Bool.and_true, Bool.false_or] at hn
        exact hn
  have h0 : anyB (fun c => decide (m ≤ c) && inB pl t c) m = false := by
    cases hx : anyB (fun c => decide (m ≤ c) && inB pl t c) m with
    | false => rfl
    | true =>
      obtain ⟨c, hc, e⟩ := (anyB_iff _ _).mp hx
      rw [decide_eq_false (by omega)] at e
      cases e
  have hk := key (30 - m) m (Nat.le_refl m) (by omega)
  rw [h0] at hk
  exact hk
theorem m_isFar1 (s : MSh T dr pl mu lf F) (w : WSh T dr pl mu lf) {t u c : Nat} (ht : t < T) (hu : u < T) (hc : c + 1 < 30) (h : Q (bI (farB pl t u c)) F G) : AMi D (d + 2) nModel_isFar [.ref 39, .int (nI t), .int (nI u), .int (nI c)] F G Q := by
  have hT := s.1
  refine eModel_isFar (m_is1 s w ht (by omega) ?_)
  unfold farB at h
  unfold inB
  cases hp : pl t c with
  | none => rw [hp] at h; exact ⟨fun _ => h, fun e => absurd rfl e⟩
  | some a =>
    refine ⟨fun e => absurd e ne10, fun _ => ?_⟩
    rw [nI_1]
    refine m_is1 s w hu hc ?_
    unfold inB
    cases hq : pl u (c + 1) with
    | none => rw [hp, hq] at h; exact ⟨fun _ => h, fun e => absurd rfl e⟩
    | some b =>
      rw [hp, hq] at h
      have ha := w.2.1 _ _ _ hp
      have hb := w.2.1 _ _ _ hq
      obtain ⟨e1, e2⟩ := jx30 (t := t) (c := c) (by omega) (by omega)
      obtain ⟨e3, e4⟩ := jx30 (t := u) (c := c + 1) (by omega) (by omega)
      have e5 : (30 * nI u + nI c) + 1 = 30 * nI u + nI (c + 1) := by
        simp only [g_lit, pk_mul, nI_add]
        rfl
      refine ⟨fun e => absurd e ne10, fun _ => ⟨e1, ?_, ?_⟩⟩
      · rw [e5]; exact e3
      · rw [e5, e2, e4, s.2.2.2.1 t c (by omega) (by omega), s.2.2.2.1 u (c + 1) (by omega) (by omega), hp, hq]
        refine m_far1 (by omega) (by omega) ?_
        rw [l5, nI_leI (by have := dist_lt ha hb; omega) (by omega)]
        simp only [hc, decide_true, Bool.true_and] at h
        refine ⟨fun e => ?_, fun e => ?_⟩
        · rw [decide_eq_false (by omega)] at h; exact h
        · rw [decide_eq_true (by omega)] at h; exact h
theorem m_meet1 (s : MSh T dr pl mu lf F) (w : WSh T dr pl mu lf) {t u : Nat} (ht : t < T) (hu : u < T) (h : Q (bI (meetB pl t u)) F G) : AMi D (d + 3) nModel_meet [.ref 39, .int (nI t), .int (nI u)] F G Q := by
  refine eModel_meet ?_
  have bad : ∀ c, c < 30 → ((inB pl t c && inB pl u c) || (farB pl t u c || farB pl u t c)) = true → Q 1 F G := by
    intro c hc e
    have e1 : meetB pl t u = true := anyB_hit hc e
    rw [e1] at h
    exact h
  have f29 : ∀ x y c, ¬ c + 1 < 30 → farB pl x y c = false := by
    intro x y c hc
    unfold farB
    split
    · rw [decide_eq_false hc, Bool.false_and]
    · rfl
  have key : ∀ k i, i + k = 30 → anyB (fun c => (inB pl t c && inB pl u c) || (farB pl t u c || farB pl u t c)) i = false → AWi D (d + 3) nModel_meet 2 [(0, .ref 39), (1, .int (nI t)), (2, .int (nI u)), (3, .int (nI i))] [] F G Q := by
    intro k
    induction k with
    | zero =>
      intro i hi ha
      refine bModel_meet_2 ⟨fun _ => ?_, fun e => absurd ((le30 (by omega)).mpr (by omega)) e⟩
      rw [show i = 30 by omega] at ha
      have e1 : meetB pl t u = false := ha
      rw [e1] at h
      exact h
    | succ k ih =>
      intro i hi ha
      have rest : (inB pl t i && inB pl u i) = false → AWi D (d + 3) nModel_meet 26 [(0, .ref 39), (1, .int (nI t)), (2, .int (nI u)), (3, .int (nI i))] [] F G Q := by
        intro hz
        refine bModel_meet_26 ?_
        rw [nI_1, le30 (by omega)]
        refine ⟨fun e => ih (i + 1) (by omega) (anyB_s ha (by rw [hz, f29 t u i (by omega), f29 u t i (by omega)]; rfl)), fun e => m_isFar1 s w ht hu (by omega) ⟨fun e => ?_, fun e => m_isFar1 s w hu ht (by omega) ⟨fun e2 => ?_, fun e2 => ?_⟩⟩⟩
        · rw [bI_n0] at e
          exact bad i (by omega) (by rw [e]; simp)
        · rw [bI_0] at e e2
          exact ih (i + 1) (by omega) (anyB_s ha (by rw [hz, e, e2]; rfl))
        · rw [bI_n0] at e2
          exact bad i (by omega) (by rw [e2]; simp)
      refine bModel_meet_2 ⟨fun e => absurd ((le30 (by omega)).mp e) (by omega), fun _ => m_is1 s w ht (by omega) ⟨fun e => ?_, fun e => m_is1 s w hu (by omega) ⟨fun e2 => ?_, fun e2 => ?_⟩⟩⟩
      · rw [bI_0] at e
        exact rest (by rw [e]; rfl)
      · rw [bI_n0] at e e2
        exact bad i (by omega) (by rw [e, e2]; rfl)
      · rw [bI_0] at e2
        exact rest (by rw [e2]; simp)
  exact key 30 0 (by omega) rfl
theorem m_areBeside1 (s : MSh T dr pl mu lf F) (w : WSh T dr pl mu lf) {t u : Nat} (ht : t < T) (hu : u < T) (h : Q (bI (besideB pl t u)) F G) : AMi D (d + 2) nModel_areBeside [.ref 39, .int (nI t), .int (nI u)] F G Q := by
  have hT := s.1
  refine eModel_areBeside ?_
  have key : ∀ k i, i + k = 30 → anyB (nearB pl t u) i = false → AWi D (d + 2) nModel_areBeside 2 [(0, .ref 39), (1, .int (nI t)), (2, .int (nI u)), (3, .int (nI i))] [] F G Q := by
    intro k
    induction k with
    | zero =>
      intro i hi ha
      refine bModel_areBeside_2 ⟨fun _ => ?_, fun e => absurd ((le30 (by omega)).mpr (by omega)) e⟩
      rw [show i = 30 by omega] at ha
      have e1 : besideB pl t u = false := ha
      rw [e1] at h
      exact h
    | succ k ih =>
      intro i hi ha
      have go : nearB pl t u i = false → AWi D (d + 2) nModel_areBeside 2 [(0, .ref 39), (1, .int (nI t)), (2, .int (nI u)), (3, .int (nI i + 1))] [] F G Q := by
        intro hz
        rw [nI_1]
        exact ih (i + 1) (by omega) (anyB_s ha hz)
      refine bModel_areBeside_2 ⟨fun e => absurd ((le30 (by omega)).mp e) (by omega), fun _ => m_is1 s w ht (by omega) ⟨fun e => ?_, fun e => m_is1 s w hu (by omega) ⟨fun e2 => ?_, fun e2 => ?_⟩⟩⟩
      · rw [bI_0] at e
        refine go ?_
        unfold nearB
        unfold inB at e
        cases hp : pl t i with
        | none => rfl
        | some a => rw [hp] at e; cases e
      · rw [bI_0] at e2
        refine go ?_
        unfold nearB
        unfold inB at e2
        cases hp : pl t i with
        | none => rfl
        | some a =>
          cases hq : pl u i with
          | none => rfl
          | some b => rw [hq] at e2; cases e2
      · rw [bI_n0] at e e2
        unfold inB at e e2
        obtain ⟨e3, e4⟩ := jx30 (t := t) (c := i) (by omega) (by omega)
        obtain ⟨e5, e6⟩ := jx30 (t := u) (c := i) (by omega) (by omega)
        refine ⟨e3, e5, ?_⟩
        rw [e4, e6, s.2.2.2.1 t i (by omega) (by omega), s.2.2.2.1 u i (by omega) (by omega)]
        cases hp : pl t i with
        | none => rw [hp] at e; cases e
        | some a =>
          cases hq : pl u i with
          | none => rw [hq] at e2; cases e2
          | some b =>
            have ha9 := w.2.1 _ _ _ hp
            have hb9 := w.2.1 _ _ _ hq
            have hnear : nearB pl t u i = decide (dist a b < 2) := by unfold nearB; rw [hp, hq]
            refine m_far1 (by omega) (by omega) ?_
            rw [l2, nI_leI (by omega) (by have := dist_lt ha9 hb9; omega)]
            refine ⟨fun q => go (by rw [hnear]; exact decide_eq_false (by omega)), fun q => ?_⟩
            have e1 : besideB pl t u = true := anyB_hit (c := i) (by omega) (by rw [hnear]; exact decide_eq_true (by omega))
            rw [e1] at h
            exact h
  exact key 30 0 (by omega) rfl
end MSHOW
