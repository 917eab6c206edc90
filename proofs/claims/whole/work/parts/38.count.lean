section STEPS8
variable {D : va_G} {d : Nat} {Q : Int32 → gF → (Nat → Int64) → Prop} {F : gF} {G : Nat → Int64} {T P Y : Nat} {dr : Nat → Nat} {pl : Nat → Nat → Option Nat} {mu : Nat → Nat → Bool} {lf : Nat → Option (Nat × Nat)} {kd sz : Nat → Nat} {ow : Nat → Option Nat} {dd rh : Nat → Nat → Option Nat} {fm ou : Nat → Nat}
theorem sumN_add (f g : Nat → Nat) : ∀ n, sumN (fun p => f p + g p) n = sumN f n + sumN g n
  | 0 => rfl
  | n + 1 => by rw [sumN, sumN, sumN, sumN_add f g n]; omega
theorem sumN_cong {f g : Nat → Nat} : ∀ n, (∀ k, k < n → f k = g k) → sumN f n = sumN g n
  | 0, _ => rfl
  | n + 1, h => by rw [sumN, sumN, sumN_cong n (fun k hk => h k (by omega)), h n (by omega)]
theorem sumN_cnt (b : Nat → Bool) : ∀ n, sumN (fun p => if b p then 1 else 0) n = cntB b n
  | 0 => rfl
  | n + 1 => by rw [sumN, cntB, sumN_cnt b n]
theorem sum_half {b : Nat → Nat → Bool} (hs : ∀ p q, b p q = b q p) (hd : ∀ p, b p p = false) : ∀ n, sumN (fun p => cntB (b p) n) n = 2 * sumN (fun p => cntB (b p) p) n
  | 0 => rfl
  | n + 1 => by
    have ih := sum_half hs hd n
    have e1 : sumN (fun p => cntB (b p) (n + 1)) n = sumN (fun p => cntB (b p) n) n + cntB (b n) n := by
      rw [← sumN_cnt (b n) n, ← sumN_add]
      refine sumN_cong n (fun k hk => ?_)
      rw [cntB, hs k n]
    rw [sumN, sumN, e1, ih, cntB, hd n]
    simp
    omega
theorem cnt_hi {b : Nat → Bool} {n : Nat} : ∀ m, (∀ q, n ≤ q → b q = false) → cntB b (n + m) = cntB b n
  | 0, _ => rfl
  | m + 1, h => by rw [← Nat.add_assoc, cntB, cnt_hi m h, h (n + m) (by omega)]; rfl
theorem m_count60 (s : MSh T dr pl mu lf F) (w : WSh T dr pl mu lf) {x1 : Int32} (h : Q (nI (cntB (fun c => (lf c).isSome) 30)) F G) : AWi D (d + 1) nModel_count 60 [(0, .ref 39), (1, .int x1), (2, .int 0), (3, .int 0)] [] F G Q := by
  have key : ∀ k i, i + k = 30 → AWi D (d + 1) nModel_count 60 [(0, .ref 39), (1, .int x1), (2, .int (nI (cntB (fun c => (lf c).isSome) i))), (3, .int (nI i))] [] F G Q := by
    intro k
    induction k with
    | zero =>
      intro i hi
      refine bModel_count_60 ⟨fun _ => ?_, fun e => absurd ((le30 (by omega)).mpr (by omega)) e⟩
      rw [show i = 30 by omega]
      exact h
    | succ k ih =>
      intro i hi
      have hx := ix1 (n := 30) (c := i) (by omega) (by omega)
      have hn := ih (i + 1) (by omega)
      rw [← nI_1, cntB, ← nI_add] at hn
      refine bModel_count_60 ⟨fun e => absurd ((le30 (by omega)).mp e) (by omega), fun _ => ⟨hx.1, ?_⟩⟩
      rw [hx.2, s.2.2.2.2.2.1 i (by omega), oM_neg (fun k hk => mlfS s w hk)]
      cases hl : lf i with
      | none => rw [hl] at hn; exact ⟨fun _ => hn, fun e => absurd rfl e⟩
      | some q => rw [hl] at hn; exact ⟨fun e => (by cases e), fun _ => hn⟩
  exact key 30 0 (by omega)
theorem m_count98 (s : MCo P Y kd sz ow dd rh fm ou F) (w : WCo T P Y kd sz ow dd rh fm ou) {x1 : Int32} (h : Q (nI (cntB (fun p => decide (ou p < 30)) P)) F G) : AWi D (d + 1) nModel_count 98 [(0, .ref 39), (1, .int x1), (2, .int 0), (3, .int 0)] [] F G Q := by
  have hP := s.1
  have key : ∀ k i, i + k = P → AWi D (d + 1) nModel_count 98 [(0, .ref 39), (1, .int x1), (2, .int (nI (cntB (fun p => decide (ou p < 30)) i))), (3, .int (nI i))] [] F G Q := by
    intro k
    induction k with
    | zero =>
      intro i hi
      refine bModel_count_98 ?_
      rw [s.2.1, nI_leI (by omega) (by omega)]
      refine ⟨fun _ => ?_, fun e => absurd (by omega) e⟩
      rw [show i = P by omega]
      exact h
    | succ k ih =>
      intro i hi
      have hx := ix1 (n := 10) (c := i) (by omega) (by omega)
      have hn := ih (i + 1) (by omega)
      have ho := w.2.2.2.2.2.2.2.2.2.2.1 i
      rw [← nI_1, cntB, ← nI_add] at hn
      refine bModel_count_98 ?_
      rw [s.2.1, nI_leI (by omega) (by omega)]
      refine ⟨fun e => absurd e (by omega), fun _ => ⟨hx.1, ?_⟩⟩
      rw [hx.2, s.2.2.2.2.2.2.2.2.2.2 i (by omega), l30, nI_leI (by omega) (by omega)]
      refine ⟨fun e => ?_, fun e => ?_⟩
      · rw [decide_eq_false (by omega)] at hn; exact hn
      · rw [decide_eq_true (by omega)] at hn; exact hn
  exact key P 0 (by omega)
theorem m_count135 (s : MCo P Y kd sz ow dd rh fm ou F) (w : WCo T P Y kd sz ow dd rh fm ou) (hT : T ≤ 8) {x1 : Int32} (h : Q (nI (cntB (fun p => (ow p).isSome) P)) F G) : AWi D (d + 1) nModel_count 135 [(0, .ref 39), (1, .int x1), (2, .int 0), (3, .int 0)] [] F G Q := by
  have hP := s.1
  have key : ∀ k i, i + k = P → AWi D (d + 1) nModel_count 135 [(0, .ref 39), (1, .int x1), (2, .int (nI (cntB (fun p => (ow p).isSome) i))), (3, .int (nI i))] [] F G Q := by
    intro k
    induction k with
    | zero =>
      intro i hi
      refine bModel_count_135 ?_
      rw [s.2.1, nI_leI (by omega) (by omega)]
      refine ⟨fun _ => ?_, fun e => absurd (by omega) e⟩
      rw [show i = P by omega]
      exact h
    | succ k ih =>
      intro i hi
      have hx := ix1 (n := 10) (c := i) (by omega) (by omega)
      have hn := ih (i + 1) (by omega)
      rw [← nI_1, cntB, ← nI_add] at hn
      refine bModel_count_135 ?_
      rw [s.2.1, nI_leI (by omega) (by omega)]
      refine ⟨fun e => absurd e (by omega), fun _ => ⟨hx.1, ?_⟩⟩
      rw [hx.2, s.2.2.2.2.2.2.1 i (by omega), oM_neg (fun k hk => by have := w.2.2.1 i k hk; omega)]
      cases hl : ow i with
      | none => rw [hl] at hn; exact ⟨fun _ => hn, fun e => absurd rfl e⟩
      | some q => rw [hl] at hn; exact ⟨fun e => (by cases e), fun _ => hn⟩
  exact key P 0 (by omega)
theorem m_count170 (s : MCo P Y kd sz ow dd rh fm ou F) (w : WCo T P Y kd sz ow dd rh fm ou) (hfm : ∀ p, fm p < 1024) {x1 : Int32} (h : Q (nI (sumN (fun p => cntB (fun q => (fm p).testBit q) p) P)) F G) : AWi D (d + 1) nModel_count 170 [(0, .ref 39), (1, .int x1), (2, .int 0), (3, .int 0)] [] F G Q := by
  have hP := s.1
  have key : ∀ k i, i + k = P → AWi D (d + 1) nModel_count 170 [(0, .ref 39), (1, .int x1), (2, .int (nI (sumN (fun p => cntB (fun q => (fm p).testBit q) p) i))), (3, .int (nI i))] [] F G Q := by
    intro k
    induction k with
    | zero =>
      intro i hi
      refine bModel_count_170 ?_
      rw [s.2.1, nI_leI (by omega) (by omega)]
      refine ⟨fun _ => ?_, fun e => absurd (by omega) e⟩
      rw [show i = P by omega]
      exact h
    | succ k ih =>
      intro i hi
      have hx := ix1 (n := 10) (c := i) (by omega) (by omega)
      have hn := ih (i + 1) (by omega)
      refine bModel_count_170 ?_
      rw [s.2.1, nI_leI (by omega) (by omega)]
      refine ⟨fun e => absurd e (by omega), fun _ => ?_⟩
      have key2 : ∀ k j, j + k = i → AWi D (d + 1) nModel_count 181 [(0, .ref 39), (1, .int x1), (2, .int (nI (sumN (fun p => cntB (fun q => (fm p).testBit q) p) i + cntB (fun q => (fm i).testBit q) j))), (3, .int (nI i)), (4, .int (nI j))] [] F G Q := by
        intro k
        induction k with
        | zero =>
          intro j hj
          refine bModel_count_181 ?_
          rw [nI_leI (by omega) (by omega), nI_1]
          refine ⟨fun _ => ?_, fun e => absurd (by omega) e⟩
          rw [show j = i by omega]
          exact hn
        | succ k ih2 =>
          intro j hj
          have hn2 := ih2 (j + 1) (by omega)
          refine bModel_count_181 ?_
          rw [nI_leI (by omega) (by omega), nI_1]
          refine ⟨fun e => absurd e (by omega), fun _ => ⟨hx.1, ?_⟩⟩
          rw [hx.2, s.2.2.2.2.2.2.2.2.2.1 i (by omega), bt_and1 (fm i) (hfm i) j (by omega)]
          rw [← nI_1 j, cntB, ← Nat.add_assoc, ← nI_add] at hn2
          cases hb : (fm i).testBit j with
          | false => rw [hb] at hn2; exact hn2
          | true => rw [hb] at hn2; exact hn2
      exact key2 i 0 (by omega)
  exact key P 0 (by omega)
theorem m_count217 (s : MCo P Y kd sz ow dd rh fm ou F) (w : WCo T P Y kd sz ow dd rh fm ou) {x1 : Int32} (h : Q (nI (sumN (fun p => cntB (pairB Y rh p) P) P)) F G) : AWi D (d + 2) nModel_count 217 [(0, .ref 39), (1, .int x1), (2, .int 0), (3, .int 0)] [] F G Q := by
  have hP := s.1
  have key : ∀ k i, i + k = P → AWi D (d + 2) nModel_count 217 [(0, .ref 39), (1, .int x1), (2, .int (nI (sumN (fun p => cntB (pairB Y rh p) P) i))), (3, .int (nI i))] [] F G Q := by
    intro k
    induction k with
    | zero =>
      intro i hi
      refine bModel_count_217 ?_
      rw [s.2.1, nI_leI (by omega) (by omega)]
      refine ⟨fun _ => ?_, fun e => absurd (by omega) e⟩
      rw [show i = P by omega]
      exact h
    | succ k ih =>
      intro i hi
      have hn := ih (i + 1) (by omega)
      refine bModel_count_217 ?_
      rw [s.2.1, nI_leI (by omega) (by omega)]
      refine ⟨fun e => absurd e (by omega), fun _ => ?_⟩
      have key2 : ∀ k j, j + k = P → AWi D (d + 2) nModel_count 228 [(0, .ref 39), (1, .int x1), (2, .int (nI (sumN (fun p => cntB (pairB Y rh p) P) i + cntB (pairB Y rh i) j))), (3, .int (nI i)), (4, .int (nI j))] [] F G Q := by
        intro k
        induction k with
        | zero =>
          intro j hj
          refine bModel_count_228 ?_
          rw [s.2.1, nI_leI (by omega) (by omega), nI_1]
          refine ⟨fun _ => ?_, fun e => absurd (by omega) e⟩
          rw [show j = P by omega]
          exact hn
        | succ k ih2 =>
          intro j hj
          have hn2 := ih2 (j + 1) (by omega)
          rw [← nI_1 j, cntB, ← Nat.add_assoc, ← nI_add] at hn2
          refine bModel_count_228 ?_
          rw [s.2.1, nI_leI (by omega) (by omega), nI_1, nI_eq (by omega) (by omega)]
          refine ⟨fun e => absurd e (by omega), fun _ => ⟨fun e => ?_, fun _ => m_isReh1 s w (by omega) (by omega) ⟨fun e => ?_, fun e => ?_⟩⟩⟩
          · subst e
            rw [show pairB Y rh i i = false from by unfold pairB; rw [w.2.2.2.2.2.2.1 i]] at hn2
            exact hn2
          · rw [(bI_0 _).mp e] at hn2; exact hn2
          · rw [(bI_n0 _).mp e] at hn2; exact hn2
      exact key2 P 0 (by omega)
  exact key P 0 (by omega)
theorem st_count {a : Int32} : Step D (d + 5) nDesk_count nModel_count [.int a] := by
  intro F G ⟨T, dr, pl, mu, lf, P, Y, kd, sz, ow, dd, rh, fm, ou, hc, ca, ho, sl, sv, hS, hC, hN, hT⟩
  have same : RI F := ⟨T, dr, pl, mu, lf, P, Y, kd, sz, ow, dd, rh, fm, ou, hc, ca, ho, sl, sv, hS, hC, hN, hT⟩
  have hP := hC.1.1
  refine eDesk_count ⟨fun ea => ?_, fun ea => ?_, fun ea => ?_, fun ea => ?_, fun ea => ?_, fun ea => ?_, fun ea => ?_, fun ea => ?_, fun z => eModel_count ⟨fun e => absurd e z.1, fun e => absurd e z.2.1, fun e => absurd e z.2.2.1, fun e => absurd e z.2.2.2.1, fun e => absurd e z.2.2.2.2.1, fun e => absurd e z.2.2.2.2.2.1, fun e => absurd e z.2.2.2.2.2.2.1, fun e => absurd e z.2.2.2.2.2.2.2, fun _ => ⟨rfl, same⟩⟩⟩
  · subst ea
    refine c_tracks hS.1 (eModel_count ⟨fun _ => ⟨hS.2.1.2.1.symm, same⟩, fun e => absurd e (by decide), fun e => absurd e (by decide), fun e => absurd e (by decide), fun e => absurd e (by decide), fun e => absurd e (by decide), fun e => absurd e (by decide), fun e => absurd e (by decide), fun z => absurd rfl z.1⟩)
  · subst ea
    refine c_people hC.1 (eModel_count ⟨fun e => absurd e (by decide), fun _ => ⟨hC.2.1.2.1.symm, same⟩, fun e => absurd e (by decide), fun e => absurd e (by decide), fun e => absurd e (by decide), fun e => absurd e (by decide), fun e => absurd e (by decide), fun e => absurd e (by decide), fun z => absurd rfl z.2.1⟩)
  · subst ea
    refine c_countLifts1 hS.1 hS.2.2 (eModel_count ⟨fun e => absurd e (by decide), fun e => absurd e (by decide), fun _ => m_count60 hS.2.1 hS.2.2 ⟨rfl, same⟩, fun e => absurd e (by decide), fun e => absurd e (by decide), fun e => absurd e (by decide), fun e => absurd e (by decide), fun e => absurd e (by decide), fun z => absurd rfl z.2.2.1⟩)
  · subst ea
    refine c_today hC.1 (eModel_count ⟨fun e => absurd e (by decide), fun e => absurd e (by decide), fun e => absurd e (by decide), fun _ => ⟨hC.2.1.2.2.2.1.symm, same⟩, fun e => absurd e (by decide), fun e => absurd e (by decide), fun e => absurd e (by decide), fun e => absurd e (by decide), fun z => absurd rfl z.2.2.2.1⟩)
  · subst ea
    refine c_countOut1 hC.1 hC.2.2 (eModel_count ⟨fun e => absurd e (by decide), fun e => absurd e (by decide), fun e => absurd e (by decide), fun e => absurd e (by decide), fun _ => m_count98 hC.2.1 hC.2.2 ⟨rfl, same⟩, fun e => absurd e (by decide), fun e => absurd e (by decide), fun e => absurd e (by decide), fun z => absurd rfl z.2.2.2.2.1⟩)
  · subst ea
    refine c_countOwned1 hC.1 hC.2.2 hS.1.1 (eModel_count ⟨fun e => absurd e (by decide), fun e => absurd e (by decide), fun e => absurd e (by decide), fun e => absurd e (by decide), fun e => absurd e (by decide), fun _ => m_count135 hC.2.1 hC.2.2 hS.1.1 ⟨rfl, same⟩, fun e => absurd e (by decide), fun e => absurd e (by decide), fun z => absurd rfl z.2.2.2.2.2.1⟩)
  · subst ea
    have h8 := hC.2.2.2.2.2.2.2.2.2.1
    have hf : ∀ p, fm p < 1024 := fun p => Nat.lt_of_lt_of_le (h8 p) (Nat.pow_le_pow_right (n := 2) (by omega) (show P ≤ 10 from hP))
    have e10 : sumN (fun p => cntB (fun q => (fm p).testBit q) 10) P = sumN (fun p => cntB (fun q => (fm p).testBit q) P) P := by
      refine sumN_cong P (fun p _ => ?_)
      have := cnt_hi (b := fun q => (fm p).testBit q) (n := P) (10 - P) (fun q hq => Nat.testBit_lt_two_pow (Nat.lt_of_lt_of_le (h8 p) (Nat.pow_le_pow_right (by omega) hq)))
      rw [show P + (10 - P) = 10 by omega] at this
      exact this
    refine c_countFeuds1 hC.1 hC.2.2 (eModel_count ⟨fun e => absurd e (by decide), fun e => absurd e (by decide), fun e => absurd e (by decide), fun e => absurd e (by decide), fun e => absurd e (by decide), fun e => absurd e (by decide), fun _ => m_count170 hC.2.1 hC.2.2 hf ⟨?_, same⟩, fun e => absurd e (by decide), fun z => absurd rfl z.2.2.2.2.2.2.1⟩)
    rw [e10, sum_half (b := fun p q => (fm p).testBit q) hC.2.2.2.2.2.2.2.2.2.2.1 hC.2.2.2.2.2.2.2.2.2.2.2.1 P, Nat.mul_div_cancel_left _ (by omega)]
  · subst ea
    refine c_countPairs1 hC.1 hC.2.2 (eModel_count ⟨fun e => absurd e (by decide), fun e => absurd e (by decide), fun e => absurd e (by decide), fun e => absurd e (by decide), fun e => absurd e (by decide), fun e => absurd e (by decide), fun e => absurd e (by decide), fun _ => m_count217 hC.2.1 hC.2.2 ⟨rfl, same⟩, fun z => absurd rfl z.2.2.2.2.2.2.2⟩)
end STEPS8
