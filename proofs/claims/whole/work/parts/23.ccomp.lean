/-! THE COMPANY: its picture, and what the class's Company answers -/
def CCo (P Y : Nat) (kd sz : Nat → Nat) (ow : Nat → Option Nat) (dd rh : Nat → Nat → Option Nat) (fm ou : Nat → Nat) (F : gF) : Prop :=
  P ≤ 10 ∧ F 101 0 = nI P ∧ Y ≤ 400 ∧ F 102 0 = nI Y ∧ (∀ p, p < P → F 8 p = nI (kd p)) ∧ (∀ p, p < P → F 9 p = nI (sz p)) ∧ (∀ p, p < 10 → F 10 p = oN (ow p)) ∧ (∀ p t, p < 10 → t < 8 → F 11 (p * 8 + t) = oM (dd p t)) ∧ (∀ p q, p < 10 → q < 10 → F 12 (p * 10 + q) = oM (rh p q)) ∧ (∀ p, p < 10 → F 13 p = nI (fm p)) ∧ (∀ p, p < 10 → F 14 p = nI (ou p))
def WCo (T P Y : Nat) (kd sz : Nat → Nat) (ow : Nat → Option Nat) (dd rh : Nat → Nat → Option Nat) (fm ou : Nat → Nat) : Prop :=
  (∀ p, p < P → kd p ≤ 3) ∧ (∀ p, p < P → sz p ≤ 9) ∧ (∀ p t, ow p = some t → t < T ∧ p < P) ∧ (∀ p q t, ow p = some t → ow q = some t → p = q) ∧ (∀ p t y, dd p t = some y → y ≤ Y) ∧ (∀ p q y, rh p q = some y → y ≤ Y) ∧ (∀ p, rh p p = none) ∧ (∀ p, fm p < 2 ^ P) ∧ (∀ p q, (fm p).testBit q = (fm q).testBit p) ∧ (∀ p, (fm p).testBit p = false) ∧ (∀ p, ou p ≤ 30) ∧ (∀ p, P ≤ p → ou p = 30)
def ofK (kd : Nat → Nat) (p k : Nat) : Bool := decide (k = 0) || (decide (kd p = k) || (decide (k = 2) && decide (kd p = 3)))
def freshB (Y : Nat) (kd : Nat → Nat) (dd : Nat → Nat → Option Nat) (p t : Nat) : Bool := match dd p t with
  | none => false
  | some y => decide (Y - y < if ofK kd p 2 then 60 else 30)
def pairB (Y : Nat) (rh : Nat → Nat → Option Nat) (p q : Nat) : Bool := match rh p q with
  | none => false
  | some y => decide (Y - y < 30)
def doneB (Y : Nat) (ow : Nat → Option Nat) (rh : Nat → Nat → Option Nat) (o1 : Option Nat) (t : Nat) (o2 : Option Nat) (u : Nat) : Bool := match o1, o2 with
  | some p, some q => (decide (ow p = some t) && decide (ow q = some u)) || pairB Y rh p q
  | _, _ => false
def playB (sz : Nat → Nat) (ow : Nat → Option Nat) (dd : Nat → Nat → Option Nat) (p t g : Nat) : Bool := (decide (ow p = some t) || (dd p t).isSome) && decide (dist (sz p) g ≤ 1)
def firstB (p : Nat → Bool) : Nat → Option Nat
  | 0 => none
  | n + 1 => match firstB p n with
    | some k => some k
    | none => if p n then some n else none
theorem firstB_lt {p : Nat → Bool} : ∀ {n k : Nat}, firstB p n = some k → k < n ∧ p k = true
  | 0, k, h => by cases h
  | n + 1, k, h => by
    rw [firstB] at h
    cases hf : firstB p n with
    | some j => rw [hf] at h; cases h; have := firstB_lt hf; exact ⟨by omega, this.2⟩
    | none =>
      rw [hf] at h
      dsimp only at h
      split at h
      · cases h; exact ⟨by omega, by assumption⟩
      · cases h
theorem firstB_none {p : Nat → Bool} : ∀ {n : Nat}, firstB p n = none ↔ ∀ k, k < n → p k = false
  | 0 => ⟨fun _ k hk => by omega, fun _ => rfl⟩
  | n + 1 => by
    rw [firstB]
    cases hf : firstB p n with
    | some j =>
      have := firstB_lt hf
      constructor
      · intro h; cases h
      · intro h; rw [h j (by omega)] at this; cases this.2
    | none =>
      have ih := firstB_none.mp hf
      dsimp only
      cases hp : p n with
      | true => constructor
                · intro h; simp at h
                · intro h; rw [h n (by omega)] at hp; cases hp
      | false => constructor
                 · intro _ k hk
                   by_cases e : k = n
                   · rw [e]; exact hp
                   · exact ih k (by omega)
                 · intro _; simp
theorem firstB_le {p : Nat → Bool} {n k : Nat} (hk : k < n) (hp : p k = true) (hl : ∀ j, j < k → p j = false) : firstB p n = some k := by
  induction n with
  | zero => omega
  | succ n ih =>
    rw [firstB]
    by_cases e : k = n
    · subst e
      rw [firstB_none.mpr hl]
      dsimp only
      rw [if_pos hp]
    · rw [ih (by omega)]
def ownerF (ow : Nat → Option Nat) (t P : Nat) : Option Nat := firstB (fun p => decide (ow p = some t)) P
theorem bt_and1 : ∀ m, m < 1024 → ∀ q, q < 10 → ((nI m >>> (nI q &&& 31)) &&& 1) = bI (m.testBit q) := by decide +kernel
theorem ix8 {p t : Nat} (hp : p < 10) (ht : t < 8) : vp_in (nI p * 8 + nI t) 80 ∧ (nI p * 8 + nI t).toNatClampNeg = p * 8 + t := by
  simp only [g_lit, pk_mul, nI_add]
  exact ⟨vp_in_nI (by omega) (by omega), nI_clamp (by omega)⟩
theorem ix10 {p q : Nat} (hp : p < 10) (hq : q < 10) : vp_in (nI p * 10 + nI q) 100 ∧ (nI p * 10 + nI q).toNatClampNeg = p * 10 + q := by
  simp only [g_lit, pk_mul, nI_add]
  exact ⟨vp_in_nI (by omega) (by omega), nI_clamp (by omega)⟩
section CCOMP
variable {D : va_G} {d : Nat} {Q : Int32 → gF → (Nat → Int64) → Prop} {Qv : gF → (Nat → Int64) → Prop} {F F' : gF} {G : Nat → Int64} {T P Y : Nat} {kd sz : Nat → Nat} {ow : Nat → Option Nat} {dd rh : Nat → Nat → Option Nat} {fm ou : Nat → Nat}
theorem CCo_fr {ks : List Nat} (hf : Fr ks F F') (hd : ∀ k ∈ [8, 9, 10, 11, 12, 13, 14, 101, 102], k ∉ ks) (s : CCo P Y kd sz ow dd rh fm ou F) : CCo P Y kd sz ow dd rh fm ou F' := by
  obtain ⟨h1, h2, h3, h4, h5, h6, h7, h8, h9, h10, h11⟩ := s
  refine ⟨h1, ?_, h3, ?_, ?_, ?_, ?_, ?_, ?_, ?_, ?_⟩
  · rw [hf 101 (hd 101 (by decide))]; exact h2
  · rw [hf 102 (hd 102 (by decide))]; exact h4
  · rw [hf 8 (hd 8 (by decide))]; exact h5
  · rw [hf 9 (hd 9 (by decide))]; exact h6
  · rw [hf 10 (hd 10 (by decide))]; exact h7
  · rw [hf 11 (hd 11 (by decide))]; exact h8
  · rw [hf 12 (hd 12 (by decide))]; exact h9
  · rw [hf 13 (hd 13 (by decide))]; exact h10
  · rw [hf 14 (hd 14 (by decide))]; exact h11
theorem c_isPerson (s : CCo P Y kd sz ow dd rh fm ou F) {a : Int32} (h1 : ∀ t, t < P → a = nI t → Q 1 F G) (h0 : ¬ vp_in a P → Q 0 F G) : AMi D (d + 1) nCompany_isPerson [.ref 8, .int a] F G Q := by
  have hT := s.1
  refine eCompany_isPerson ?_
  rw [s.2.1]
  exact ixcase (by omega) h1 h0
theorem c_isPerson1 (s : CCo P Y kd sz ow dd rh fm ou F) {p : Nat} (hp : p < P) (h : Q 1 F G) : AMi D (d + 1) nCompany_isPerson [.ref 8, .int (nI p)] F G Q :=
  c_isPerson s (fun _ _ _ => h) (fun n => absurd (vp_in_nI hp (by have := s.1; omega)) n)
theorem c_isPersonN (s : CCo P Y kd sz ow dd rh fm ou F) (h : Q 0 F G) : AMi D (d + 1) nCompany_isPerson [.ref 8, .int gNONE] F G Q :=
  c_isPerson s (fun t ht e => absurd e.symm (nI_neN (by have := s.1; omega))) (fun _ => h)
theorem c_people (s : CCo P Y kd sz ow dd rh fm ou F) (h : Q (nI P) F G) : AMi D (d + 1) nCompany_people [.ref 8] F G Q := eCompany_people (by rw [s.2.1]; exact h)
theorem c_today (s : CCo P Y kd sz ow dd rh fm ou F) (h : Q (nI Y) F G) : AMi D (d + 1) nCompany_today [.ref 8] F G Q := eCompany_today (by rw [s.2.2.2.1]; exact h)
theorem c_isOfKind1 (s : CCo P Y kd sz ow dd rh fm ou F) (w : WCo T P Y kd sz ow dd rh fm ou) {p k : Nat} (hp : p < P) (hk : k ≤ 3) (h : Q (bI (ofK kd p k)) F G) : AMi D (d + 2) nCompany_isOfKind [.ref 8, .int (nI p), .int (nI k)] F G Q := by
  have hP := s.1
  have hk3 := w.1 p hp
  refine eCompany_isOfKind (c_isPerson1 s hp ⟨fun _ => ?_, fun e => absurd e ne10⟩)
  rw [(ix1 (n := 10) (c := p) (by omega) (by omega)).2, s.2.2.2.2.1 p hp, nI_eq (by omega) (by omega), l2, nI_eq (by omega) (by omega), l3, nI_eq (by omega) (by omega), ← nI_0, nI_eq (by omega) (by omega)]
  unfold ofK at h
  refine ⟨fun e => ?_, fun e => ⟨(ix1 (by omega) (by omega)).1, fun e2 => ?_, fun e2 => ⟨fun e3 => ?_, fun e3 => ⟨(ix1 (by omega) (by omega)).1, fun e4 => ?_, fun e4 => ?_⟩⟩⟩⟩
  · simp only [e, decide_true, Bool.true_or] at h; exact h
  · simp only [e2, decide_true, Bool.true_or, Bool.or_true] at h; exact h
  · simp only [e, e2, e3, decide_false, Bool.false_or, Bool.false_and] at h; rw [nI_0]; exact h
  · simp only [e, e2, e4, decide_false, Bool.false_or, Bool.and_false] at h; rw [nI_0]; exact h
  · simp only [e, e2, e3, e4, decide_true, Bool.or_true, Bool.true_and] at h; exact h
theorem c_owns1 (s : CCo P Y kd sz ow dd rh fm ou F) (w : WCo T P Y kd sz ow dd rh fm ou) (hT : T ≤ 8) {p t : Nat} (hp : p < P) (ht : t < 2 ^ 31) (h : Q (bI (decide (ow p = some t))) F G) : AMi D (d + 2) nCompany_owns [.ref 8, .int (nI p), .int (nI t)] F G Q := by
  have hP := s.1
  refine eCompany_owns (c_isPerson1 s hp ⟨fun e => absurd e ne10, fun _ => ⟨fun e => absurd e (nI_neN ht), fun _ => ⟨(ix1 (by omega) (by omega)).1, ?_⟩⟩⟩)
  rw [(ix1 (n := 10) (c := p) (by omega) (by omega)).2, s.2.2.2.2.2.2.1 p (by omega), oN_eq ht (fun k hk => by have := w.2.2.1 p k hk; omega)]
  exact ⟨fun e => by rw [decide_eq_false e] at h; exact h, fun e => by rw [decide_eq_true e] at h; exact h⟩
theorem c_ownsN (s : CCo P Y kd sz ow dd rh fm ou F) {a : Int32} (h : Q 0 F G) : AMi D (d + 2) nCompany_owns [.ref 8, .int gNONE, .int a] F G Q :=
  eCompany_owns (c_isPersonN s ⟨fun _ => h, fun e => absurd rfl e⟩)
theorem c_ownsM (s : CCo P Y kd sz ow dd rh fm ou F) {p : Nat} (hp : p < P) (h : Q 0 F G) : AMi D (d + 2) nCompany_owns [.ref 8, .int (nI p), .int gNONE] F G Q :=
  eCompany_owns (c_isPerson1 s hp ⟨fun e => absurd e ne10, fun _ => ⟨fun _ => h, fun e => absurd rfl e⟩⟩)
theorem c_ownerOf1 (s : CCo P Y kd sz ow dd rh fm ou F) (w : WCo T P Y kd sz ow dd rh fm ou) (hT : T ≤ 8) {t : Nat} (ht : t < 2 ^ 31) (h : Q (oN (ownerF ow t P)) F G) : AMi D (d + 3) nCompany_ownerOf [.ref 8, .int (nI t)] F G Q := by
  have hP := s.1
  refine eCompany_ownerOf ?_
  have key : ∀ k i, i + k = P → firstB (fun p => decide (ow p = some t)) i = none → AWi D (d + 3) nCompany_ownerOf 2 [(0, .ref 8), (1, .int (nI t)), (2, .int (nI i))] [] F G Q := by
    intro k
    induction k with
    | zero =>
      intro i hi hf
      refine bCompany_ownerOf_2 ?_
      rw [s.2.1, nI_leI (by omega) (by omega)]
      refine ⟨fun _ => ?_, fun e => absurd (by omega) e⟩
      have e : ownerF ow t P = none := by unfold ownerF; rw [show P = i by omega]; exact hf
      rw [e] at h
      exact h
    | succ k ih =>
      intro i hi hf
      refine bCompany_ownerOf_2 ?_
      rw [s.2.1, nI_leI (by omega) (by omega)]
      refine ⟨fun e => absurd e (by omega), fun _ => c_owns1 s w hT (by omega) ht ⟨fun e => ?_, fun e => ?_⟩⟩
      · rw [bI_0] at e
        rw [nI_1]
        refine ih (i + 1) (by omega) ?_
        rw [firstB, hf]
        dsimp only
        rw [e]
        rfl
      · rw [bI_n0] at e
        have e2 : ownerF ow t P = some i := firstB_le (by omega) e (firstB_none.mp hf)
        rw [e2] at h
        exact h
  exact key P 0 (by omega) rfl
theorem c_ownerOfN (s : CCo P Y kd sz ow dd rh fm ou F) (h : Q gNONE F G) : AMi D (d + 3) nCompany_ownerOf [.ref 8, .int gNONE] F G Q := by
  have hP := s.1
  refine eCompany_ownerOf ?_
  have key : ∀ k i, i + k = P → AWi D (d + 3) nCompany_ownerOf 2 [(0, .ref 8), (1, .int gNONE), (2, .int (nI i))] [] F G Q := by
    intro k
    induction k with
    | zero =>
      intro i hi
      refine bCompany_ownerOf_2 ?_
      rw [s.2.1, nI_leI (by omega) (by omega)]
      exact ⟨fun _ => h, fun e => absurd (by omega) e⟩
    | succ k ih =>
      intro i hi
      refine bCompany_ownerOf_2 ?_
      rw [s.2.1, nI_leI (by omega) (by omega)]
      refine ⟨fun e => absurd e (by omega), fun _ => c_ownsM s (by omega) ⟨fun e => ?_, fun e => absurd rfl e⟩⟩
      rw [nI_1]
      exact ih (i + 1) (by omega)
  exact key P 0 (by omega)
theorem c_ownedBy1 (s : CCo P Y kd sz ow dd rh fm ou F) {p : Nat} (hp : p < P) (h : Q (oN (ow p)) F G) : AMi D (d + 2) nCompany_ownedBy [.ref 8, .int (nI p)] F G Q := by
  have hP := s.1
  refine eCompany_ownedBy (c_isPerson1 s hp ⟨fun e => absurd e ne10, fun _ => ⟨(ix1 (by omega) (by omega)).1, ?_⟩⟩)
  rw [(ix1 (n := 10) (c := p) (by omega) (by omega)).2, s.2.2.2.2.2.2.1 p (by omega)]
  exact h
theorem c_sinceDay1 (s : CCo P Y kd sz ow dd rh fm ou F) {o : Option Nat} (ho : ∀ y, o = some y → y ≤ Y) (h : Q (oN (o.map (fun y => Y - y))) F G) : AMi D (d + 1) nCompany_sinceDay [.ref 8, .int (oM o)] F G Q := by
  have hY := s.2.2.1
  refine eCompany_sinceDay ?_
  rw [s.2.2.2.1]
  cases o with
  | none => exact ⟨fun e => absurd rfl e, fun _ => h⟩
  | some y =>
    have := ho y rfl
    refine ⟨fun _ => ?_, fun e => absurd e (nI_neM (by omega))⟩
    rw [oM_some, pk_sub this]
    exact h
theorem t7 {t : Nat} (ht : t < 8) : (0 : Int32) ≤ nI t ∧ nI t ≤ 7 := ⟨nI_pos' (by omega), by rw [show (7 : Int32) = nI 7 from rfl]; exact nI_le (by omega) (by omega)⟩
theorem c_daysDid1 (s : CCo P Y kd sz ow dd rh fm ou F) (w : WCo T P Y kd sz ow dd rh fm ou) {p t : Nat} (hp : p < P) (ht : t < 8) (h : Q (oN ((dd p t).map (fun y => Y - y))) F G) : AMi D (d + 2) nCompany_daysSinceDid [.ref 8, .int (nI p), .int (nI t)] F G Q := by
  have hP := s.1
  refine eCompany_daysSinceDid (c_isPerson1 s hp ⟨fun e => absurd e ne10, fun _ => c_isWithin (fun _ _ => ⟨fun e => absurd e ne10, fun _ => ?_⟩) (fun z => absurd (t7 ht) z)⟩)
  obtain ⟨e1, e2⟩ := ix8 (p := p) (t := t) (by omega) ht
  refine bCompany_daysSinceDid_23 ⟨fun e => absurd e ne10, fun _ => ⟨e1, ?_⟩⟩
  rw [e2, s.2.2.2.2.2.2.2.1 p t (by omega) ht]
  exact c_sinceDay1 s (fun y hy => w.2.2.2.2.1 p t y hy) h
theorem ddS (s : CCo P Y kd sz ow dd rh fm ou F) {o : Option Nat} {k : Nat} (h : o.map (fun y => Y - y) = some k) : k < 2 ^ 31 := by
  have hY := s.2.2.1
  cases o with
  | none => cases h
  | some y => cases h; show Y - y < 2 ^ 31; omega
theorem c_knows1 (s : CCo P Y kd sz ow dd rh fm ou F) (w : WCo T P Y kd sz ow dd rh fm ou) {p t : Nat} (hp : p < P) (ht : t < 8) (h : Q (bI (dd p t).isSome) F G) : AMi D (d + 3) nCompany_knows [.ref 8, .int (nI p), .int (nI t)] F G Q := by
  refine eCompany_knows (c_daysDid1 s w hp ht ?_)
  rw [oN_N (fun k hk => ddS s hk)]
  cases hd : dd p t with
  | none => rw [hd] at h; exact ⟨fun _ => h, fun e => absurd rfl e⟩
  | some y => rw [hd] at h; exact ⟨fun e => (by cases e), fun _ => h⟩
theorem c_isFresh1 (s : CCo P Y kd sz ow dd rh fm ou F) (w : WCo T P Y kd sz ow dd rh fm ou) {p t : Nat} (hp : p < P) (ht : t < 8) (h : Q (bI (freshB Y kd dd p t)) F G) : AMi D (d + 3) nCompany_isFresh [.ref 8, .int (nI p), .int (nI t)] F G Q := by
  have hY := s.2.2.1
  refine eCompany_isFresh (c_daysDid1 s w hp ht ?_)
  rw [oN_N (fun k hk => ddS s hk)]
  unfold freshB at h
  cases hd : dd p t with
  | none => rw [hd] at h; exact ⟨fun _ => h, fun e => absurd rfl e⟩
  | some y =>
    rw [hd] at h
    dsimp only at h
    refine ⟨fun e => (by cases e), fun _ => ?_⟩
    rw [l2]
    refine c_isOfKind1 s w hp (by omega) ⟨fun e => bCompany_isFresh_30 ?_, fun e => bCompany_isFresh_30 ?_⟩
    · rw [bI_0] at e
      rw [e] at h
      show ((30 : Int32) ≤ nI (Y - y) → _) ∧ (¬ ((30 : Int32) ≤ nI (Y - y)) → _)
      rw [l30, nI_leI (by omega) (by omega)]
      refine ⟨fun q => ?_, fun q => ?_⟩
      · rw [decide_eq_false (by simp; omega)] at h; exact h
      · rw [decide_eq_true (by simp; omega)] at h; exact h
    · rw [bI_n0] at e
      rw [e] at h
      show ((60 : Int32) ≤ nI (Y - y) → _) ∧ (¬ ((60 : Int32) ≤ nI (Y - y)) → _)
      rw [l60, nI_leI (by omega) (by omega)]
      refine ⟨fun q => ?_, fun q => ?_⟩
      · rw [decide_eq_false (by simp; omega)] at h; exact h
      · rw [decide_eq_true (by simp; omega)] at h; exact h
theorem c_areTwo (s : CCo P Y kd sz ow dd rh fm ou F) {a b : Int32} (h1 : ∀ p q, p < P → q < P → p ≠ q → a = nI p → b = nI q → Q 1 F G) (h0 : ¬ (vp_in a P ∧ vp_in b P ∧ a ≠ b) → Q 0 F G) : AMi D (d + 2) nCompany_areTwo [.ref 8, .int a, .int b] F G Q := by
  refine eCompany_areTwo (c_isPerson s (fun p hp ea => ⟨fun e => absurd e ne10, fun _ => c_isPerson s (fun q hq eb => ⟨fun e => absurd e ne10, fun _ => ⟨fun e => h0 (fun z => z.2.2 e), fun e => h1 p q hp hq (fun z => e (by rw [ea, eb, z])) ea eb⟩⟩) (fun n => ⟨fun _ => h0 (fun z => n z.2.1), fun e => absurd rfl e⟩)⟩) (fun n => ⟨fun _ => h0 (fun z => n z.1), fun e => absurd rfl e⟩))
theorem c_areTwo1 (s : CCo P Y kd sz ow dd rh fm ou F) {p q : Nat} (hp : p < P) (hq : q < P) (hpq : p ≠ q) (h : Q 1 F G) : AMi D (d + 2) nCompany_areTwo [.ref 8, .int (nI p), .int (nI q)] F G Q := by
  have hP := s.1
  exact c_areTwo s (fun _ _ _ _ _ _ _ => h) (fun n => absurd ⟨vp_in_nI hp (by omega), vp_in_nI hq (by omega), fun e => hpq (nI_inj (by omega) (by omega) e)⟩ n)
theorem c_daysReh1 (s : CCo P Y kd sz ow dd rh fm ou F) (w : WCo T P Y kd sz ow dd rh fm ou) {p q : Nat} (hp : p < P) (hq : q < P) (h : Q (oN ((rh p q).map (fun y => Y - y))) F G) : AMi D (d + 2) nCompany_daysSinceRehearsed [.ref 8, .int (nI p), .int (nI q)] F G Q := by
  have hP := s.1
  refine eCompany_daysSinceRehearsed (c_isPerson1 s hp ⟨fun e => absurd e ne10, fun _ => c_isPerson1 s hq ⟨fun e => absurd e ne10, fun _ => ?_⟩⟩)
  obtain ⟨e1, e2⟩ := ix10 (p := p) (q := q) (by omega) (by omega)
  refine bCompany_daysSinceRehearsed_21 ⟨fun e => absurd e ne10, fun _ => ⟨e1, ?_⟩⟩
  rw [e2, s.2.2.2.2.2.2.2.2.1 p q (by omega) (by omega)]
  exact c_sinceDay1 s (fun y hy => w.2.2.2.2.2.1 p q y hy) h
theorem c_isFreshPair1 (s : CCo P Y kd sz ow dd rh fm ou F) (w : WCo T P Y kd sz ow dd rh fm ou) {p q : Nat} (hp : p < P) (hq : q < P) (h : Q (bI (pairB Y rh p q)) F G) : AMi D (d + 2) nCompany_isFreshPair [.ref 8, .int (nI p), .int (nI q)] F G Q := by
  have hP := s.1
  have hY := s.2.2.1
  refine eCompany_isFreshPair (c_isPerson1 s hp ⟨fun e => absurd e ne10, fun _ => c_isPerson1 s hq ⟨fun _ => ?_, fun e => absurd e ne10⟩⟩)
  obtain ⟨e1, e2⟩ := ix10 (p := p) (q := q) (by omega) (by omega)
  refine ⟨e1, ?_⟩
  rw [e2, s.2.2.2.2.2.2.2.2.1 p q (by omega) (by omega), s.2.2.2.1]
  unfold pairB at h
  cases hr : rh p q with
  | none => rw [hr] at h; exact ⟨fun _ => h, fun e => absurd rfl e⟩
  | some y =>
    rw [hr] at h
    dsimp only at h
    have := w.2.2.2.2.2.1 p q y hr
    refine ⟨fun e => absurd e (nI_neM (by omega)), fun _ => ?_⟩
    rw [oM_some, pk_sub this, l30, nI_leI (by omega) (by omega)]
    refine ⟨fun z => ?_, fun z => ?_⟩
    · rw [decide_eq_false (by omega)] at h; exact h
    · rw [decide_eq_true (by omega)] at h; exact h
theorem c_freshPairN1 (s : CCo P Y kd sz ow dd rh fm ou F) {a : Int32} (h : Q 0 F G) : AMi D (d + 2) nCompany_isFreshPair [.ref 8, .int gNONE, .int a] F G Q :=
  eCompany_isFreshPair (c_isPersonN s ⟨fun _ => h, fun e => absurd rfl e⟩)
theorem c_freshPairN2 (s : CCo P Y kd sz ow dd rh fm ou F) {p : Nat} (hp : p < P) (h : Q 0 F G) : AMi D (d + 2) nCompany_isFreshPair [.ref 8, .int (nI p), .int gNONE] F G Q :=
  eCompany_isFreshPair (c_isPerson1 s hp ⟨fun e => absurd e ne10, fun _ => c_isPersonN s ⟨fun e => absurd rfl e, fun _ => h⟩⟩)
theorem c_doLift1 (s : CCo P Y kd sz ow dd rh fm ou F) (w : WCo T P Y kd sz ow dd rh fm ou) (hT : T ≤ 8) {o1 o2 : Option Nat} {t u : Nat} (ho1 : ∀ p, o1 = some p → p < P) (ho2 : ∀ p, o2 = some p → p < P) (ht : t < 2 ^ 31) (hu : u < 2 ^ 31) (h : Q (bI (doneB Y ow rh o1 t o2 u)) F G) : AMi D (d + 3) nCompany_doLift [.ref 8, .int (oN o1), .int (nI t), .int (oN o2), .int (nI u)] F G Q := by
  cases o1 with
  | none =>
    refine eCompany_doLift (c_ownsN s ⟨fun _ => bCompany_doLift_19 (c_freshPairN1 s ⟨fun _ => ?_, fun e => absurd rfl e⟩), fun e => absurd rfl e⟩)
    exact h
  | some p =>
    have hp := ho1 p rfl
    cases o2 with
    | none =>
      have fin : AWi D (d + 3) nCompany_doLift 19 [(0, .ref 8), (1, .int (nI p)), (2, .int (nI t)), (3, .int gNONE), (4, .int (nI u))] [] F G Q := bCompany_doLift_19 (c_freshPairN2 s hp ⟨fun _ => h, fun e => absurd rfl e⟩)
      exact eCompany_doLift (c_owns1 s w hT hp ht ⟨fun _ => fin, fun _ => c_ownsN s ⟨fun e => absurd rfl e, fun _ => fin⟩⟩)
    | some q =>
      have hq := ho2 q rfl
      unfold doneB at h
      dsimp only at h
      have fin : (decide (ow p = some t) && decide (ow q = some u)) = false → AWi D (d + 3) nCompany_doLift 19 [(0, .ref 8), (1, .int (nI p)), (2, .int (nI t)), (3, .int (nI q)), (4, .int (nI u))] [] F G Q := by
        intro hz
        rw [hz, Bool.false_or] at h
        refine bCompany_doLift_19 (c_isFreshPair1 s w hp hq ⟨fun e => ?_, fun e => ?_⟩)
        · rw [bI_0] at e; rw [e] at h; exact h
        · rw [bI_n0] at e; rw [e] at h; exact h
      refine eCompany_doLift (c_owns1 s w hT hp ht ⟨fun e => fin ?_, fun e => c_owns1 s w hT hq hu ⟨fun e2 => ?_, fun e2 => fin ?_⟩⟩)
      · rw [bI_0] at e; rw [e]; rfl
      · rw [bI_n0] at e e2; rw [e, e2] at h; exact h
      · rw [bI_0] at e2; rw [e2]; simp
theorem c_foesOf1 (s : CCo P Y kd sz ow dd rh fm ou F) {p : Nat} (hp : p < P) (h : Q (nI (fm p)) F G) : AMi D (d + 2) nCompany_foesOf [.ref 8, .int (nI p)] F G Q := by
  have hP := s.1
  refine eCompany_foesOf (c_isPerson1 s hp ⟨fun e => absurd e ne10, fun _ => ⟨(ix1 (by omega) (by omega)).1, ?_⟩⟩)
  rw [(ix1 (n := 10) (c := p) (by omega) (by omega)).2, s.2.2.2.2.2.2.2.2.2.1 p (by omega)]
  exact h
theorem fm1024 (s : CCo P Y kd sz ow dd rh fm ou F) (w : WCo T P Y kd sz ow dd rh fm ou) (p : Nat) : fm p < 1024 := by
  have h1 := w.2.2.2.2.2.2.2.1 p
  have h2 : 2 ^ P ≤ 2 ^ 10 := Nat.pow_le_pow_right (by decide) s.1
  have h3 : (2 : Nat) ^ 10 = 1024 := by decide
  omega
theorem c_areFoes1 (s : CCo P Y kd sz ow dd rh fm ou F) (w : WCo T P Y kd sz ow dd rh fm ou) {p q : Nat} (hp : p < P) (hq : q < P) (h : Q (bI ((fm p).testBit q)) F G) : AMi D (d + 3) nCompany_areFoes [.ref 8, .int (nI p), .int (nI q)] F G Q := by
  have hP := s.1
  refine eCompany_areFoes (c_isPerson1 s hq ⟨fun e => absurd e ne10, fun _ => c_foesOf1 s hp ?_⟩)
  rw [bt_and1 (fm p) (fm1024 s w p) q (by omega)]
  cases hb : (fm p).testBit q with
  | true => rw [hb] at h; exact ⟨fun e => absurd rfl e, fun _ => h⟩
  | false => rw [hb] at h; exact ⟨fun _ => h, fun e => absurd e (by decide)⟩
theorem c_outFrom1 (s : CCo P Y kd sz ow dd rh fm ou F) {p : Nat} (hp : p < P) (h : Q (nI (ou p)) F G) : AMi D (d + 2) nCompany_outFrom [.ref 8, .int (nI p)] F G Q := by
  have hP := s.1
  refine eCompany_outFrom (c_isPerson1 s hp ⟨fun e => absurd e ne10, fun _ => ⟨(ix1 (by omega) (by omega)).1, ?_⟩⟩)
  rw [(ix1 (n := 10) (c := p) (by omega) (by omega)).2, s.2.2.2.2.2.2.2.2.2.2 p (by omega)]
  exact h
theorem c_isOut1 (s : CCo P Y kd sz ow dd rh fm ou F) (w : WCo T P Y kd sz ow dd rh fm ou) {p : Nat} (hp : p < P) (h : Q (bI (decide (ou p < 30))) F G) : AMi D (d + 3) nCompany_isOut [.ref 8, .int (nI p)] F G Q := by
  have h30 := w.2.2.2.2.2.2.2.2.2.2.1 p
  refine eCompany_isOut (c_outFrom1 s hp ?_)
  rw [l30, nI_leI (by omega) (by omega)]
  refine ⟨fun e => ?_, fun e => ?_⟩
  · rw [decide_eq_false (by omega)] at h; exact h
  · rw [decide_eq_true (by omega)] at h; exact h
theorem c_fitsDress1 (s : CCo P Y kd sz ow dd rh fm ou F) (w : WCo T P Y kd sz ow dd rh fm ou) {p g : Nat} (hp : p < P) (hg : g ≤ 9) (h : Q (bI (decide (dist (sz p) g ≤ 1))) F G) : AMi D (d + 2) nCompany_fitsDress [.ref 8, .int (nI p), .int (nI g)] F G Q := by
  have hP := s.1
  have h9 := w.2.1 p hp
  refine eCompany_fitsDress (c_isPerson1 s hp ⟨fun e => absurd e ne10, fun _ => ⟨(ix1 (by omega) (by omega)).1, ?_⟩⟩)
  rw [(ix1 (n := 10) (c := p) (by omega) (by omega)).2, s.2.2.2.2.2.1 p hp, abs_sub (by omega) (by omega), l1, nI_ltI (by omega) (by have := dist_lt h9 hg; omega)]
  refine ⟨fun e => ?_, fun e => ?_⟩
  · rw [decide_eq_false (by omega)] at h; exact h
  · rw [decide_eq_true (by omega)] at h; exact h
theorem c_canPlay1 (s : CCo P Y kd sz ow dd rh fm ou F) (w : WCo T P Y kd sz ow dd rh fm ou) (hT : T ≤ 8) {p t g : Nat} (hp : p < P) (ht : t < 8) (hg : g ≤ 9) (h : Q (bI (playB sz ow dd p t g)) F G) : AMi D (d + 4) nCompany_canPlay [.ref 8, .int (nI p), .int (nI t), .int (nI g)] F G Q := by
  unfold playB at h
  have fin : (decide (ow p = some t) || (dd p t).isSome) = true → AWi D (d + 4) nCompany_canPlay 18 [(0, .ref 8), (1, .int (nI p)), (2, .int (nI t)), (3, .int (nI g))] [] F G Q := by
    intro hz
    rw [hz, Bool.true_and] at h
    refine bCompany_canPlay_18 (c_fitsDress1 s w hp hg ⟨fun e => ?_, fun e => ?_⟩)
    · rw [bI_0] at e; rw [e] at h; exact h
    · rw [bI_n0] at e; rw [e] at h; exact h
  refine eCompany_canPlay (c_owns1 s w hT hp (by omega) ⟨fun e => fin ?_, fun e => c_knows1 s w hp ht ⟨fun e2 => ?_, fun e2 => fin ?_⟩⟩)
  · rw [bI_n0] at e; rw [e]; rfl
  · rw [bI_0] at e e2; rw [e, e2] at h; exact h
  · rw [bI_n0] at e2; rw [e2]; simp
end CCOMP
