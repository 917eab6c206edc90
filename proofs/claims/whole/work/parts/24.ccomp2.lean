/-! THE COMPANY: what changes it, and its counts -/
def bcE (a0 : Int32) : Int32 := ((((((((a0 - (((a0).toUInt32 >>> ((1 : Int32).toUInt32 &&& Int32.toUInt32 31)).toInt32 &&& 1431655765)) &&& 858993459) + ((((a0 - (((a0).toUInt32 >>> ((1 : Int32).toUInt32 &&& Int32.toUInt32 31)).toInt32 &&& 1431655765))).toUInt32 >>> ((2 : Int32).toUInt32 &&& Int32.toUInt32 31)).toInt32 &&& 858993459)) + (((((a0 - (((a0).toUInt32 >>> ((1 : Int32).toUInt32 &&& Int32.toUInt32 31)).toInt32 &&& 1431655765)) &&& 858993459) + ((((a0 - (((a0).toUInt32 >>> ((1 : Int32).toUInt32 &&& Int32.toUInt32 31)).toInt32 &&& 1431655765))).toUInt32 >>> ((2 : Int32).toUInt32 &&& Int32.toUInt32 31)).toInt32 &&& 858993459))).toUInt32 >>> ((4 : Int32).toUInt32 &&& Int32.toUInt32 31)).toInt32) &&& 252645135) + (((((((a0 - (((a0).toUInt32 >>> ((1 : Int32).toUInt32 &&& Int32.toUInt32 31)).toInt32 &&& 1431655765)) &&& 858993459) + ((((a0 - (((a0).toUInt32 >>> ((1 : Int32).toUInt32 &&& Int32.toUInt32 31)).toInt32 &&& 1431655765))).toUInt32 >>> ((2 : Int32).toUInt32 &&& Int32.toUInt32 31)).toInt32 &&& 858993459)) + (((((a0 - (((a0).toUInt32 >>> ((1 : Int32).toUInt32 &&& Int32.toUInt32 31)).toInt32 &&& 1431655765)) &&& 858993459) + ((((a0 - (((a0).toUInt32 >>> ((1 : Int32).toUInt32 &&& Int32.toUInt32 31)).toInt32 &&& 1431655765))).toUInt32 >>> ((2 : Int32).toUInt32 &&& Int32.toUInt32 31)).toInt32 &&& 858993459))).toUInt32 >>> ((4 : Int32).toUInt32 &&& Int32.toUInt32 31)).toInt32) &&& 252645135)).toUInt32 >>> ((8 : Int32).toUInt32 &&& Int32.toUInt32 31)).toInt32) + ((((((((a0 - (((a0).toUInt32 >>> ((1 : Int32).toUInt32 &&& Int32.toUInt32 31)).toInt32 &&& 1431655765)) &&& 858993459) + ((((a0 - (((a0).toUInt32 >>> ((1 : Int32).toUInt32 &&& Int32.toUInt32 31)).toInt32 &&& 1431655765))).toUInt32 >>> ((2 : Int32).toUInt32 &&& Int32.toUInt32 31)).toInt32 &&& 858993459)) + (((((a0 - (((a0).toUInt32 >>> ((1 : Int32).toUInt32 &&& Int32.toUInt32 31)).toInt32 &&& 1431655765)) &&& 858993459) + ((((a0 - (((a0).toUInt32 >>> ((1 : Int32).toUInt32 &&& Int32.toUInt32 31)).toInt32 &&& 1431655765))).toUInt32 >>> ((2 : Int32).toUInt32 &&& Int32.toUInt32 31)).toInt32 &&& 858993459))).toUInt32 >>> ((4 : Int32).toUInt32 &&& Int32.toUInt32 31)).toInt32) &&& 252645135) + (((((((a0 - (((a0).toUInt32 >>> ((1 : Int32).toUInt32 &&& Int32.toUInt32 31)).toInt32 &&& 1431655765)) &&& 858993459) + ((((a0 - (((a0).toUInt32 >>> ((1 : Int32).toUInt32 &&& Int32.toUInt32 31)).toInt32 &&& 1431655765))).toUInt32 >>> ((2 : Int32).toUInt32 &&& Int32.toUInt32 31)).toInt32 &&& 858993459)) + (((((a0 - (((a0).toUInt32 >>> ((1 : Int32).toUInt32 &&& Int32.toUInt32 31)).toInt32 &&& 1431655765)) &&& 858993459) + ((((a0 - (((a0).toUInt32 >>> ((1 : Int32).toUInt32 &&& Int32.toUInt32 31)).toInt32 &&& 1431655765))).toUInt32 >>> ((2 : Int32).toUInt32 &&& Int32.toUInt32 31)).toInt32 &&& 858993459))).toUInt32 >>> ((4 : Int32).toUInt32 &&& Int32.toUInt32 31)).toInt32) &&& 252645135)).toUInt32 >>> ((8 : Int32).toUInt32 &&& Int32.toUInt32 31)).toInt32)).toUInt32 >>> ((16 : Int32).toUInt32 &&& Int32.toUInt32 31)).toInt32) &&& 63)
set_option maxRecDepth 20000 in
theorem bt_pop : ∀ m, m < 1024 → bcE (nI m) = nI (cntB (fun q => m.testBit q) 10) := by decide +kernel
def setb (m q : Nat) (on : Bool) : Nat := if m.testBit q = on then m else m ^^^ 2 ^ q
theorem bt_or : ∀ m, m < 1024 → ∀ q, q < 10 → (nI m ||| (1 <<< (nI q &&& 31))) = nI (setb m q true) := by decide +kernel
theorem bt_clr : ∀ m, m < 1024 → ∀ q, q < 10 → (nI m &&& ((1 <<< (nI q &&& 31)) ^^^ (-1))) = nI (setb m q false) := by decide +kernel
theorem bt_xor : ∀ m, m < 1024 → ∀ q, q < 10 → (nI m ^^^ (1 <<< (nI q &&& 31))) = nI (m ^^^ 2 ^ q) := by decide +kernel
/-- a sum below n -/
def sumN (f : Nat → Nat) : Nat → Nat
  | 0 => 0
  | n + 1 => sumN f n + f n
theorem sumN_le {f : Nat → Nat} {k : Nat} : ∀ {n : Nat}, (∀ i, i < n → f i ≤ k) → sumN f n ≤ n * k
  | 0, _ => by rw [sumN]; omega
  | n + 1, h => by
    have h1 := sumN_le (n := n) (fun i hi => h i (by omega))
    have h2 := h n (by omega)
    rw [sumN, Nat.succ_mul]
    omega
section CCOMP2
variable {D : va_G} {d : Nat} {Q : Int32 → gF → (Nat → Int64) → Prop} {Qv : gF → (Nat → Int64) → Prop} {F F' : gF} {G : Nat → Int64} {T P Y : Nat} {kd sz : Nat → Nat} {ow : Nat → Option Nat} {dd rh : Nat → Nat → Option Nat} {fm ou : Nat → Nat}
theorem c_bitCount1 {m : Nat} (hm : m < 1024) (h : Q (nI (cntB (fun q => m.testBit q) 10)) F G) : AMi D (d + 1) nInteger_bitCount [.int (nI m)] F G Q := by
  refine eInteger_bitCount ?_
  show Q (bcE (nI m)) F G
  rw [bt_pop m hm]
  exact h
theorem c_setOwned1 (s : CCo P Y kd sz ow dd rh fm ou F) {p : Nat} (hp : p < P) (o : Option Nat) (h : ∀ F', CCo P Y kd sz (up1 ow p o) dd rh fm ou F' → Fr [10] F F' → Qv F' G) : AMv D (d + 2) nCompany_setOwned [.ref 8, .int (nI p), .int (oN o)] F G Qv := by
  have hP := s.1
  refine eCompany_setOwned (c_isPerson1 s hp ⟨fun e => absurd e ne10, fun _ => ⟨(ix1 (by omega) (by omega)).1, ?_⟩⟩)
  rw [(ix1 (n := 10) (c := p) (by omega) (by omega)).2]
  refine h _ ?_ (Fr.rf.up (by decide))
  obtain ⟨h1, h2, h3, h4, h5, h6, h7, h8, h9, h10, h11⟩ := s
  refine ⟨h1, h2, h3, h4, h5, h6, fun q hq => ?_, h8, h9, h10, h11⟩
  rw [up_same, upd_i, up1]
  split
  · rfl
  · exact h7 q hq
theorem c_setOut1 (s : CCo P Y kd sz ow dd rh fm ou F) {p c : Nat} (hp : p < P) (h : ∀ F', CCo P Y kd sz ow dd rh fm (up1 ou p c) F' → Fr [14] F F' → Qv F' G) : AMv D (d + 2) nCompany_setOutFrom [.ref 8, .int (nI p), .int (nI c)] F G Qv := by
  have hP := s.1
  refine eCompany_setOutFrom (c_isPerson1 s hp ⟨fun e => absurd e ne10, fun _ => ⟨(ix1 (by omega) (by omega)).1, ?_⟩⟩)
  rw [(ix1 (n := 10) (c := p) (by omega) (by omega)).2]
  refine h _ ?_ (Fr.rf.up (by decide))
  obtain ⟨h1, h2, h3, h4, h5, h6, h7, h8, h9, h10, h11⟩ := s
  refine ⟨h1, h2, h3, h4, h5, h6, h7, h8, h9, h10, fun q hq => ?_⟩
  rw [up_same, upd_i, up1]
  split
  · rfl
  · exact h11 q hq
theorem c_setDid1 (s : CCo P Y kd sz ow dd rh fm ou F) {p t : Nat} (hp : p < P) (ht : t < 8) (h : ∀ F', CCo P Y kd sz ow (up2 dd p t (some Y)) rh fm ou F' → Fr [11] F F' → Qv F' G) : AMv D (d + 2) nCompany_setDidToday [.ref 8, .int (nI p), .int (nI t)] F G Qv := by
  have hP := s.1
  refine eCompany_setDidToday (c_isPerson1 s hp ⟨fun e => absurd e ne10, fun _ => c_isWithin (fun _ _ => ⟨fun e => absurd e ne10, fun _ => ?_⟩) (fun z => absurd (t7 ht) z)⟩)
  obtain ⟨e1, e2⟩ := ix8 (p := p) (t := t) (by omega) ht
  refine ⟨e1, ?_⟩
  rw [e2]
  refine h _ ?_ (Fr.rf.up (by decide))
  obtain ⟨h1, h2, h3, h4, h5, h6, h7, h8, h9, h10, h11⟩ := s
  refine ⟨h1, h2, h3, h4, h5, h6, h7, fun p' t' q1 q2 => ?_, h9, h10, h11⟩
  rw [up_same, upd_i, up2, h4]
  by_cases e : p' = p ∧ t' = t
  · rw [if_pos (by rw [e.1, e.2]), if_pos e]; rfl
  · rw [if_neg (fun z => e (by omega)), if_neg e]
    exact h8 p' t' q1 q2
theorem c_setReh1 (s : CCo P Y kd sz ow dd rh fm ou F) {p q : Nat} (hp : p < P) (hq : q < P) (hpq : p ≠ q) (h : ∀ F', CCo P Y kd sz ow dd (up2 rh p q (some Y)) fm ou F' → Fr [12] F F' → Qv F' G) : AMv D (d + 3) nCompany_setRehearsedToday [.ref 8, .int (nI p), .int (nI q)] F G Qv := by
  have hP := s.1
  refine eCompany_setRehearsedToday (c_areTwo1 s hp hq hpq ⟨fun e => absurd e ne10, fun _ => ?_⟩)
  obtain ⟨e1, e2⟩ := ix10 (p := p) (q := q) (by omega) (by omega)
  refine ⟨e1, ?_⟩
  rw [e2]
  refine h _ ?_ (Fr.rf.up (by decide))
  obtain ⟨h1, h2, h3, h4, h5, h6, h7, h8, h9, h10, h11⟩ := s
  refine ⟨h1, h2, h3, h4, h5, h6, h7, h8, fun p' t' q1 q2 => ?_, h10, h11⟩
  rw [up_same, upd_i, up2, h4]
  by_cases e : p' = p ∧ t' = q
  · rw [if_pos (by rw [e.1, e.2]), if_pos e]; rfl
  · rw [if_neg (fun z => e (by omega)), if_neg e]
    exact h9 p' t' q1 q2
theorem CCo_foes (s : CCo P Y kd sz ow dd rh fm ou F) {p q x y : Nat} : CCo P Y kd sz ow dd rh (up1 (up1 fm p x) q y) ou (up (up F 13 p (nI x)) 13 q (nI y)) := by
  obtain ⟨h1, h2, h3, h4, h5, h6, h7, h8, h9, h10, h11⟩ := s
  refine ⟨h1, h2, h3, h4, h5, h6, h7, h8, h9, fun r hr => ?_, h11⟩
  rw [up_same, upd_i, up1]
  split
  · rfl
  · rw [up_same, upd_i, up1]
    split
    · rfl
    · exact h10 r hr
theorem c_setFoes1 (s : CCo P Y kd sz ow dd rh fm ou F) (w : WCo T P Y kd sz ow dd rh fm ou) {p q : Nat} (hp : p < P) (hq : q < P) (hpq : p ≠ q) (on : Bool) (h : ∀ F', CCo P Y kd sz ow dd rh (up1 (up1 fm p (setb (fm p) q on)) q (setb (fm q) p on)) ou F' → Fr [13] F F' → Qv F' G) : AMv D (d + 3) nCompany_setFoes [.ref 8, .int (nI p), .int (nI q), .int (bI on)] F G Qv := by
  have hP := s.1
  have hip := ix1 (n := 10) (c := p) (by omega) (by omega)
  have hiq := ix1 (n := 10) (c := q) (by omega) (by omega)
  have hfq : ∀ x, (up F 13 p x) 13 q = nI (fm q) := by
    intro x
    rw [up_same, upd_i, if_neg (fun e => hpq e.symm)]
    exact s.2.2.2.2.2.2.2.2.2.1 q (by omega)
  have hs := CCo_foes s (p := p) (q := q) (x := setb (fm p) q on) (y := setb (fm q) p on)
  have hfr : Fr [13] F (up (up F 13 p (nI (setb (fm p) q on))) 13 q (nI (setb (fm q) p on))) := (Fr.rf.up (by decide)).up (by decide)
  have hfin := h _ hs hfr
  refine eCompany_setFoes (c_areTwo1 s hp hq hpq ⟨fun e => absurd e ne10, fun _ => ⟨fun e => ⟨hip.1, ?_⟩, fun e => ⟨hip.1, ?_⟩⟩⟩)
  · rw [bI_0] at e
    subst e
    rw [hip.2, s.2.2.2.2.2.2.2.2.2.1 p (by omega), bt_clr (fm p) (fm1024 s w p) q (by omega)]
    refine bCompany_setFoes_43 ⟨hip.1, fun _ => ⟨hiq.1, hiq.1, ?_⟩, fun e => absurd rfl e⟩
    rw [hip.2, hiq.2, hfq, bt_clr (fm q) (fm1024 s w q) p (by omega)]
    exact hfin
  · rw [bI_n0] at e
    subst e
    rw [hip.2, s.2.2.2.2.2.2.2.2.2.1 p (by omega), bt_or (fm p) (fm1024 s w p) q (by omega)]
    refine bCompany_setFoes_43 ⟨hip.1, fun e => absurd e ne10, fun _ => ⟨hiq.1, hiq.1, ?_⟩⟩
    rw [hip.2, hiq.2, hfq, bt_or (fm q) (fm1024 s w q) p (by omega)]
    exact hfin
theorem c_passDays1 (s : CCo P Y kd sz ow dd rh fm ou F) {n : Nat} (hn : Y + n ≤ 400) (h : ∀ F', CCo P (Y + n) kd sz ow dd rh fm (fun _ => 30) F' → Fr [102, 14] F F' → Qv F' G) : AMv D (d + 1) nCompany_passDays [.ref 8, .int (nI n)] F G Qv := by
  refine eCompany_passDays ?_
  refine h _ ?_ ((Fr.rf.up (by decide)).up (by decide))
  obtain ⟨h1, h2, h3, h4, h5, h6, h7, h8, h9, h10, h11⟩ := s
  refine ⟨h1, h2, hn, ?_, h5, h6, h7, h8, h9, h10, fun q hq => ?_⟩
  · rw [upA_ne _ _ (by decide), upS_same, h4, nI_add]
  · rw [upA_same, gFl, if_pos hq]; rfl
theorem c_addPerson1 (s : CCo P Y kd sz ow dd rh fm ou F) {k z : Nat} (h1 : P < 10 → ∀ F', CCo (P + 1) Y (up1 kd P k) (up1 sz P z) ow dd rh fm ou F' → Fr [8, 9, 101] F F' → Q (nI P) F' G) (h0 : P = 10 → Q (-1000000003) F G) : AMi D (d + 1) nCompany_addPerson [.ref 8, .int (nI k), .int (nI z)] F G Q := by
  obtain ⟨q1, q2, q3, q4, q5, q6, q7, q8, q9, q10, q11⟩ := s
  refine eCompany_addPerson ?_
  rw [q2, l10, nI_ltI (by omega) (by omega)]
  refine ⟨fun ht => ?_, fun ht => h0 (by omega)⟩
  have hi := ix1 (n := 10) ht (by omega)
  simp only [hi.2, upS_same, up_ne _ _ _ (show (101 : Nat) ≠ 8 by decide), up_ne _ _ _ (show (101 : Nat) ≠ 9 by decide), q2]
  refine ⟨hi.1, hi.1, ?_⟩
  rw [nI_1, nI_pred]
  refine h1 ht _ ⟨by omega, by rw [upS_same], q3, q4, fun p hp => ?_, fun p hp => ?_, q7, q8, q9, q10, q11⟩ (((Fr.rf.up (by decide)).up (by decide)).up (by decide))
  · rw [upS_ne _ _ (by decide), up_ne _ _ _ (by decide), up_same, upd_i, up1]
    by_cases e : p = P
    · rw [if_pos e, if_pos e]
    · rw [if_neg e, if_neg e]; exact q5 p (by omega)
  · rw [upS_ne _ _ (by decide), up_same, upd_i, up1]
    by_cases e : p = P
    · rw [if_pos e, if_pos e]
    · rw [if_neg e, if_neg e, up_ne _ _ _ (by decide)]; exact q6 p (by omega)
theorem c_countOut1 (s : CCo P Y kd sz ow dd rh fm ou F) (w : WCo T P Y kd sz ow dd rh fm ou) (h : Q (nI (cntB (fun p => decide (ou p < 30)) P)) F G) : AMi D (d + 4) nCompany_countOut [.ref 8] F G Q := by
  have hP := s.1
  refine eCompany_countOut ?_
  have key : ∀ k i, i + k = P → AWi D (d + 4) nCompany_countOut 4 [(0, .ref 8), (1, .int (nI (cntB (fun p => decide (ou p < 30)) i))), (2, .int (nI i))] [] F G Q := by
    intro k
    induction k with
    | zero =>
      intro i hi
      refine bCompany_countOut_4 ?_
      rw [s.2.1, nI_leI (by omega) (by omega)]
      refine ⟨fun _ => ?_, fun e => absurd (by omega) e⟩
      rw [show i = P by omega]
      exact h
    | succ k ih =>
      intro i hi
      refine bCompany_countOut_4 ?_
      rw [s.2.1, nI_leI (by omega) (by omega)]
      refine ⟨fun e => absurd e (by omega), fun _ => c_isOut1 s w (by omega) ?_⟩
      have hn := ih (i + 1) (by omega)
      rw [← nI_1, cntB] at hn
      refine ⟨fun e => ?_, fun e => ?_⟩
      · rw [bI_0] at e
        rw [if_neg (by rw [e]; decide), ← nI_add] at hn
        exact hn
      · rw [bI_n0] at e
        rw [if_pos e, ← nI_add] at hn
        exact hn
  exact key P 0 (by omega)
theorem c_countOwned1 (s : CCo P Y kd sz ow dd rh fm ou F) (w : WCo T P Y kd sz ow dd rh fm ou) (hT : T ≤ 8) (h : Q (nI (cntB (fun p => (ow p).isSome) P)) F G) : AMi D (d + 3) nCompany_countOwned [.ref 8] F G Q := by
  have hP := s.1
  refine eCompany_countOwned ?_
  have key : ∀ k i, i + k = P → AWi D (d + 3) nCompany_countOwned 4 [(0, .ref 8), (1, .int (nI (cntB (fun p => (ow p).isSome) i))), (2, .int (nI i))] [] F G Q := by
    intro k
    induction k with
    | zero =>
      intro i hi
      refine bCompany_countOwned_4 ?_
      rw [s.2.1, nI_leI (by omega) (by omega)]
      refine ⟨fun _ => ?_, fun e => absurd (by omega) e⟩
      rw [show i = P by omega]
      exact h
    | succ k ih =>
      intro i hi
      refine bCompany_countOwned_4 ?_
      rw [s.2.1, nI_leI (by omega) (by omega)]
      refine ⟨fun e => absurd e (by omega), fun _ => c_ownedBy1 s (by omega) ?_⟩
      have hn := ih (i + 1) (by omega)
      rw [← nI_1, cntB] at hn
      rw [oN_N (fun k hk => by have := w.2.2.1 i k hk; omega)]
      cases ho : ow i with
      | none =>
        rw [ho, if_neg (by decide), ← nI_add] at hn
        exact ⟨fun _ => hn, fun e => absurd rfl e⟩
      | some t =>
        rw [ho, if_pos (show (some t).isSome = true from rfl), ← nI_add] at hn
        exact ⟨fun e => (by cases e), fun _ => hn⟩
  exact key P 0 (by omega)
theorem c_countFeuds1 (s : CCo P Y kd sz ow dd rh fm ou F) (w : WCo T P Y kd sz ow dd rh fm ou) (h : Q (nI (sumN (fun p => cntB (fun q => (fm p).testBit q) 10) P / 2)) F G) : AMi D (d + 3) nCompany_countFeuds [.ref 8] F G Q := by
  have hP := s.1
  have hb : ∀ n, n ≤ 10 → sumN (fun p => cntB (fun q => (fm p).testBit q) 10) n ≤ 100 := by
    intro n hn
    have h1 := sumN_le (f := fun p => cntB (fun q => (fm p).testBit q) 10) (k := 10) (n := n) (fun i _ => cntB_le _ 10)
    omega
  refine eCompany_countFeuds ?_
  have key : ∀ k i, i + k = P → AWi D (d + 3) nCompany_countFeuds 4 [(0, .ref 8), (1, .int (nI (sumN (fun p => cntB (fun q => (fm p).testBit q) 10) i))), (2, .int (nI i))] [] F G Q := by
    intro k
    induction k with
    | zero =>
      intro i hi
      refine bCompany_countFeuds_4 ?_
      rw [s.2.1, nI_leI (by omega) (by omega)]
      refine ⟨fun _ => ?_, fun e => absurd (by omega) e⟩
      have := hb i (by omega)
      rw [l2, pk_div (by omega) (by omega) (by omega), show i = P by omega]
      exact h
    | succ k ih =>
      intro i hi
      refine bCompany_countFeuds_4 ?_
      rw [s.2.1, nI_leI (by omega) (by omega)]
      refine ⟨fun e => absurd e (by omega), fun _ => c_foesOf1 s (by omega) (c_bitCount1 (fm1024 s w i) ?_)⟩
      have hn := ih (i + 1) (by omega)
      rw [← nI_1, sumN, ← nI_add] at hn
      exact hn
  exact key P 0 (by omega)
theorem c_countPairs1 (s : CCo P Y kd sz ow dd rh fm ou F) (w : WCo T P Y kd sz ow dd rh fm ou) (h : Q (nI (sumN (fun p => cntB (pairB Y rh p) P) P)) F G) : AMi D (d + 3) nCompany_countFreshPairs [.ref 8] F G Q := by
  have hP := s.1
  refine eCompany_countFreshPairs ?_
  have inner : ∀ (i x : Nat), i < P → AWi D (d + 3) nCompany_countFreshPairs 4 [(0, .ref 8), (1, .int (nI (x + cntB (pairB Y rh i) P))), (2, .int (nI (i + 1)))] [] F G Q → ∀ k j, j + k = P → AWi D (d + 3) nCompany_countFreshPairs 14 [(0, .ref 8), (1, .int (nI (x + cntB (pairB Y rh i) j))), (2, .int (nI i)), (3, .int (nI j))] [] F G Q := by
    intro i x hi hnext k
    induction k with
    | zero =>
      intro j hj
      refine bCompany_countFreshPairs_14 ?_
      rw [s.2.1, nI_leI (by omega) (by omega)]
      refine ⟨fun _ => ?_, fun e => absurd (by omega) e⟩
      rw [show j = P by omega, nI_1]
      exact hnext
    | succ k ih =>
      intro j hj
      refine bCompany_countFreshPairs_14 ?_
      rw [s.2.1, nI_leI (by omega) (by omega)]
      refine ⟨fun e => absurd e (by omega), fun _ => c_isFreshPair1 s w hi (by omega) ?_⟩
      have hn := ih (j + 1) (by omega)
      rw [← nI_1, cntB] at hn
      refine ⟨fun e => ?_, fun e => ?_⟩
      · rw [bI_0] at e
        rw [if_neg (by rw [e]; decide), ← Nat.add_assoc, ← nI_add _ 0] at hn
        exact hn
      · rw [bI_n0] at e
        rw [if_pos e, ← Nat.add_assoc, ← nI_add _ 1] at hn
        exact hn
  have outer : ∀ k i, i + k = P → AWi D (d + 3) nCompany_countFreshPairs 4 [(0, .ref 8), (1, .int (nI (sumN (fun p => cntB (pairB Y rh p) P) i))), (2, .int (nI i))] [] F G Q := by
    intro k
    induction k with
    | zero =>
      intro i hi
      refine bCompany_countFreshPairs_4 ?_
      rw [s.2.1, nI_leI (by omega) (by omega)]
      refine ⟨fun _ => ?_, fun e => absurd (by omega) e⟩
      rw [show i = P by omega]
      exact h
    | succ k ih =>
      intro i hi
      refine bCompany_countFreshPairs_4 ?_
      rw [s.2.1, nI_leI (by omega) (by omega)]
      refine ⟨fun e => absurd e (by omega), fun _ => ?_⟩
      have hn := ih (i + 1) (by omega)
      rw [sumN] at hn
      exact inner i _ (by omega) hn P 0 (by omega)
  exact outer P 0 (by omega)
end CCOMP2
