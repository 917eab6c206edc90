/-! THE SEARCH, the class's side: what it reads ahead, and what it asks on its way -/
def barM (pl : Nat → Nat → Option Nat) (fm : Nat → Nat) (tr : gTr) (t : Nat) : Nat → Nat
  | 0 => 0
  | i + 1 => match tr i with
    | none => barM pl fm tr t i
    | some q => (if besideB pl t i then (if meetB pl t i then setb (barM pl fm tr t i) q true else barM pl fm tr t i) ||| fm q else (if meetB pl t i then setb (barM pl fm tr t i) q true else barM pl fm tr t i))
theorem barM_lt {pl : Nat → Nat → Option Nat} {fm : Nat → Nat} {tr : gTr} {t : Nat} (hq : ∀ u q, tr u = some q → q < 10) (hf : ∀ q, fm q < 1024) : ∀ i, barM pl fm tr t i < 1024
  | 0 => by rw [barM]; omega
  | i + 1 => by
    have ih := barM_lt (pl := pl) (t := t) hq hf i
    rw [barM]
    cases ht : tr i with
    | none => exact ih
    | some q =>
      dsimp only
      have h1 : (if meetB pl t i then setb (barM pl fm tr t i) q true else barM pl fm tr t i) < 1024 := by
        split
        · exact setb_lt10 ih (hq i q ht)
        · exact ih
      split
      · exact Nat.or_lt_two_pow (n := 10) h1 (hf q)
      · exact h1
theorem barM_bit {pl : Nat → Nat → Option Nat} {fm : Nat → Nat} {tr : gTr} {t p : Nat} (hs : ∀ p q, (fm p).testBit q = (fm q).testBit p) : ∀ i, (barM pl fm tr t i).testBit p = anyB (barB pl fm tr p t) i
  | 0 => by simp [barM, anyB]
  | i + 1 => by
    have ih := barM_bit (pl := pl) (tr := tr) (t := t) (p := p) hs i
    rw [barM, anyB, ← ih]
    unfold barB
    cases ht : tr i with
    | none => simp
    | some q =>
      dsimp only
      have h1 : (if meetB pl t i then setb (barM pl fm tr t i) q true else barM pl fm tr t i).testBit p = ((barM pl fm tr t i).testBit p || (decide (q = p) && meetB pl t i)) := by
        cases hm : meetB pl t i with
        | false => simp
        | true =>
          rw [if_pos rfl, tb_setb, Bool.and_true]
          by_cases e : p = q
          · rw [if_pos e, decide_eq_true e.symm, Bool.or_true]
          · rw [if_neg e, decide_eq_false (fun z => e z.symm), Bool.or_false]
      cases hb : besideB pl t i with
      | false => rw [if_neg (by simp), h1]; simp
      | true => rw [if_pos rfl, Nat.testBit_or, h1, hs p q]; simp [Bool.or_assoc]
theorem owner_iff {T P Y : Nat} {kd sz : Nat → Nat} {ow : Nat → Option Nat} {dd rh : Nat → Nat → Option Nat} {fm ou : Nat → Nat} (w : WCo T P Y kd sz ow dd rh fm ou) {p t : Nat} (hp : p < P) : ownerF ow t P = some p ↔ ow p = some t := by
  constructor
  · intro h
    have := (firstB_lt h).2
    simpa using this
  · intro h
    cases ho : ownerF ow t P with
    | none =>
      have := firstB_none.mp ho p hp
      rw [h] at this
      simp at this
    | some j =>
      have := (firstB_lt ho).2
      have e : ow j = some t := by simpa using this
      rw [w.2.2.2.1 j p t e h]
theorem ix80 {t p : Nat} (ht : t < 8) (hp : p < 10) : vp_in (nI t * 10 + nI p) 80 ∧ (nI t * 10 + nI p).toNatClampNeg = t * 10 + p := by
  simp only [g_lit, pk_mul, nI_add]
  exact ⟨vp_in_nI (by omega) (by omega), nI_clamp (by omega)⟩
theorem ix64 {t u : Nat} (ht : t < 8) (hu : u < 8) : vp_in (nI t * 8 + nI u) 64 ∧ (nI t * 8 + nI u).toNatClampNeg = t * 8 + u := by
  simp only [g_lit, pk_mul, nI_add]
  exact ⟨vp_in_nI (by omega) (by omega), nI_clamp (by omega)⟩
theorem out_last {pl : Nat → Nat → Option Nat} {t f : Nat} (hf : f ≤ 30) : nI f ≤ oM (lastB (inB pl t) 30) ↔ fromB pl t f = true := by
  by_cases e : f < 30
  · exact from_last e
  · have e : f = 30 := by omega
    subst e
    constructor
    · intro h
      cases hl : lastB (inB pl t) 30 with
      | none => rw [hl] at h; exact absurd h (by decide)
      | some k =>
        have := lastB_lt hl
        rw [hl, oM_some, nI_leI (by omega) (by omega)] at h
        omega
    · intro h
      obtain ⟨c, hc, hh⟩ := (anyB_iff _ _).mp h
      rw [decide_eq_false (by omega)] at hh
      cases hh
theorem nI_or0 (m : Nat) : nI m ||| 0 = nI m := by
  have := nI_or m 0
  rw [Nat.or_zero] at this
  exact this
section CREAD
variable {D : va_G} {d : Nat} {Q : Int32 → gF → (Nat → Int64) → Prop} {Qv : gF → (Nat → Int64) → Prop} {F F' : gF} {G : Nat → Int64} {T P Y : Nat} {dr : Nat → Nat} {pl : Nat → Nat → Option Nat} {mu : Nat → Nat → Bool} {lf : Nat → Option (Nat × Nat)} {kd sz : Nat → Nat} {ow : Nat → Option Nat} {dd rh : Nat → Nat → Option Nat} {fm ou : Nat → Nat}
theorem c_cover1 (v : CCo P Y kd sz ow dd rh fm ou F) (w : WCo T P Y kd sz ow dd rh fm ou) (hT : T ≤ 8) {p t : Nat} (hp : p < P) (ht : t < T) (h : Q (nI (covN P Y kd ow dd p t)) F G) : AMi D (d + 4) nCastSearch_coverLoss [.ref 19, .int (nI p), .int (nI t), .int (oN (ownerF ow t P))] F G Q := by
  have hP := v.1
  have ho31 : ∀ k, ownerF ow t P = some k → k < 2 ^ 31 := fun k hk => by have := (firstB_lt hk).1; omega
  refine eCastSearch_coverLoss ?_
  rw [oN_eq (by omega) ho31, owner_iff w hp]
  refine ⟨fun hn => ?_, fun he => ?_⟩
  · have b24 : ∀ s0 : Nat, s0 = (if freshB Y kd dd p t then 0 else 3) → AWi D (d + 4) nCastSearch_coverLoss 24 [(0, .ref 19), (1, .int (nI p)), (2, .int (nI t)), (3, .int (oN (ownerF ow t P)))] [.int (nI s0)] F G Q := by
      intro s0 hs
      unfold covN at h
      rw [if_neg hn, ← hs] at h
      refine bCastSearch_coverLoss_24 ?_
      rw [oN_N ho31]
      refine ⟨fun e => c_isOfKind1 (k := 2) v w hp (by omega) ⟨fun e2 => ?_, fun e2 => ?_⟩, fun e => ?_⟩
      · cases ho : ownerF ow t P with
        | none => exact absurd ho e
        | some j =>
          rw [ho] at h
          dsimp only at h
          rw [(bI_0 _).mp e2, if_neg (by simp), ← nI_add] at h
          exact h
      · cases ho : ownerF ow t P with
        | none => exact absurd ho e
        | some j =>
          rw [ho] at h
          dsimp only at h
          rw [(bI_n0 _).mp e2, if_pos rfl, ← nI_add] at h
          exact h
      · rw [e] at h
        exact h
    refine c_isFresh1 v w hp (by omega) ⟨fun e => b24 3 ?_, fun e => b24 0 ?_⟩
    · rw [(bI_0 _).mp e]; rfl
    · rw [(bI_n0 _).mp e]; rfl
  · unfold covN at h
    rw [if_pos he] at h
    exact h
theorem c_readPeople1 (s : CSh T dr pl mu lf F) (ws : WSh T dr pl mu lf) (v : CCo P Y kd sz ow dd rh fm ou F) (w : WCo T P Y kd sz ow dd rh fm ou) {t : Nat} (ht : t < T) (h : ∀ F', Fr [19, 23] F F' → (∀ u, F' 19 u = if u = t then nI (maskB (fun p => okB dr pl sz ow dd ou p t) P) else F 19 u) → (∀ p, p < P → F' 23 (t * 10 + p) = nI (covN P Y kd ow dd p t)) → (∀ u p, u ≠ t → p < 10 → F' 23 (u * 10 + p) = F 23 (u * 10 + p)) → Qv F' G) : AMv D (d + 5) nCastSearch_readPeople [.ref 19, .int (nI t)] F G Qv := by
  have hT := s.1
  have hP := v.1
  have hit := ix1 (n := 8) (c := t) (by omega) (by omega)
  refine eCastSearch_readPeople (c_lastCue1 s ws ht (c_ownerOf1 v w hT (by omega) ?_))
  have key : ∀ k i F', i + k = P → Fr [19, 23] F F' → F' 19 = F 19 → (∀ p, p < i → F' 23 (t * 10 + p) = nI (covN P Y kd ow dd p t)) → (∀ u p, u ≠ t → p < 10 → F' 23 (u * 10 + p) = F 23 (u * 10 + p)) → AWv D (d + 5) nCastSearch_readPeople 24 [(0, .ref 19), (1, .int (nI t)), (2, .int (nI (maskB (fun p => okB dr pl sz ow dd ou p t) i))), (3, .int (oM (lastB (inB pl t) 30))), (4, .int (oN (ownerF ow t P))), (5, .int (nI i))] [] F' G Qv := by
    intro k
    induction k with
    | zero =>
      intro i F' hi f1 f2 f3 f4
      have v' := CCo_fr f1 (by decide) v
      refine bCastSearch_readPeople_24 (c_people v' ?_)
      rw [nI_leI (by omega) (by omega)]
      refine ⟨fun _ => ⟨hit.1, ?_⟩, fun e => absurd (by omega) e⟩
      rw [hit.2]
      refine h _ (f1.up (by decide)) (fun u => ?_) (fun p hp => ?_) (fun u p hu hp => ?_)
      · rw [up_i, if_pos rfl, f2, show i = P by omega]
      · rw [up_ne _ _ _ (by decide)]; exact f3 p (by omega)
      · rw [up_ne _ _ _ (by decide)]; exact f4 u p hu hp
    | succ k ih =>
      intro i F' hi f1 f2 f3 f4
      have v' := CCo_fr f1 (by decide) v
      have s' := CSh_fr f1 (by decide) s
      have hx := ix80 (t := t) (p := i) (by omega) (by omega)
      have hou := w.2.2.2.2.2.2.2.2.2.2.1 i
      have b89 : ∀ (m : Nat) (x6 : Int32), m = maskB (fun p => okB dr pl sz ow dd ou p t) (i + 1) → AWv D (d + 5) nCastSearch_readPeople 89 [(0, .ref 19), (1, .int (nI t)), (2, .int (nI m)), (3, .int (oM (lastB (inB pl t) 30))), (4, .int (oN (ownerF ow t P))), (5, .int (nI i)), (6, .int x6)] [] F' G Qv := by
        intro m x6 hm
        refine bCastSearch_readPeople_89 (c_cover1 v' w hT (by omega) ht ⟨hx.1, ?_⟩)
        rw [hx.2, hm, nI_1]
        refine ih (i + 1) _ (by omega) (f1.up (by decide)) (by rw [up_ne _ _ _ (by decide)]; exact f2) (fun p hp => ?_) (fun u p hu hp => ?_)
        · rw [up_same, upd_i]
          by_cases e : p = i
          · rw [if_pos (by omega), e]
          · rw [if_neg (by omega)]; exact f3 p (by omega)
        · rw [up_same, upd_i, if_neg (by omega)]
          exact f4 u p hu hp
      have no : okB dr pl sz ow dd ou i t = false → maskB (fun p => okB dr pl sz ow dd ou p t) i = maskB (fun p => okB dr pl sz ow dd ou p t) (i + 1) := fun e => by rw [maskB, e]; rfl
      have yes : okB dr pl sz ow dd ou i t = true → setb (maskB (fun p => okB dr pl sz ow dd ou p t) i) i true = maskB (fun p => okB dr pl sz ow dd ou p t) (i + 1) := fun e => by rw [maskB, e]; rfl
      unfold okB at no yes
      refine bCastSearch_readPeople_24 (c_people v' ?_)
      rw [nI_leI (by omega) (by omega)]
      refine ⟨fun e => absurd e (by omega), fun _ => c_outFrom1 v' (by omega) ?_⟩
      rw [out_last hou]
      refine ⟨fun e => bCastSearch_readPeople_54 ⟨fun _ => b89 _ _ (no (by rw [e]; simp)), fun z => absurd rfl z⟩, fun e => bCastSearch_readPeople_54 ⟨fun z => absurd z ne10, fun _ => c_dressOf1 s' ht (c_canPlay1 v' w hT (by omega) (by omega) (ws.1 t ht) ⟨fun e2 => b89 _ _ (no ?_), fun e2 => ?_⟩)⟩⟩
      · rw [(bI_0 _).mp e2]; rfl
      · rw [bt_or _ (maskB_lt (by omega)) i (by omega)]
        refine b89 _ _ (yes ?_)
        rw [(bI_n0 _).mp e2]
        simpa using e
  exact key P 0 F (by omega) Fr.rf rfl (fun p hp => absurd hp (by omega)) (fun _ _ _ _ => rfl)
theorem c_readEarlier1 (s : CSh T dr pl mu lf F) (ws : WSh T dr pl mu lf) {t : Nat} (ht : t < T) (h : Qv (up (up F 20 t (nI (maskB (meetB pl t) t))) 21 t (nI (maskB (besideB pl t) t))) G) : AMv D (d + 5) nCastSearch_readEarlierTracks [.ref 19, .int (nI t)] F G Qv := by
  have hT := s.1
  have hit := ix1 (n := 8) (c := t) (by omega) (by omega)
  refine eCastSearch_readEarlierTracks ?_
  have key : ∀ k i, i + k = t → AWv D (d + 5) nCastSearch_readEarlierTracks 7 [(0, .ref 19), (1, .int (nI t)), (2, .int (nI (maskB (meetB pl t) i))), (3, .int (nI (maskB (besideB pl t) i))), (4, .int (nI i))] [] F G Qv := by
    intro k
    induction k with
    | zero =>
      intro i hi
      refine bCastSearch_readEarlierTracks_7 ?_
      rw [nI_leI (by omega) (by omega), hit.2, show i = t by omega]
      exact ⟨fun _ => ⟨hit.1, hit.1, h⟩, fun e => absurd (by omega) e⟩
    | succ k ih =>
      intro i hi
      have hn := ih (i + 1) (by omega)
      rw [← nI_1 i] at hn
      have b35 : ∀ s0, (nI (maskB (meetB pl t) i) ||| s0) = nI (maskB (meetB pl t) (i + 1)) → AWv D (d + 5) nCastSearch_readEarlierTracks 35 [(0, .ref 19), (1, .int (nI t)), (2, .int (nI (maskB (meetB pl t) i))), (3, .int (nI (maskB (besideB pl t) i))), (4, .int (nI i))] [.int s0, .int (nI (maskB (meetB pl t) i))] F G Qv := by
        intro s0 hs
        refine bCastSearch_readEarlierTracks_35 (c_canBeFoes1 s ws ht (by omega) ?_)
        rw [hs]
        refine ⟨fun e => ?_, fun e => ?_⟩
        · rw [bt_or _ (maskB_lt (by omega)) i (by omega)]
          have e : besideB pl t i = true := by simpa using (bI_0 _).mp e
          rw [maskB.eq_2 (besideB pl t) i, e, if_pos rfl] at hn
          exact hn
        · rw [nI_or0]
          have e : besideB pl t i = false := by simpa using (bI_n0 _).mp e
          rw [maskB.eq_2 (besideB pl t) i, e, if_neg (by simp)] at hn
          exact hn
      refine bCastSearch_readEarlierTracks_7 ?_
      rw [nI_leI (by omega) (by omega)]
      refine ⟨fun e => absurd e (by omega), fun _ => c_canBeOne1 s ws ht (by omega) ⟨fun e => b35 _ ?_, fun e => b35 _ ?_⟩⟩
      · rw [bt_or _ (maskB_lt (by omega)) i (by omega)]
        have e : meetB pl t i = true := by simpa using (bI_0 _).mp e
        rw [maskB.eq_2 (meetB pl t) i, e, if_pos rfl]
      · rw [nI_or0]
        have e : meetB pl t i = false := by simpa using (bI_n0 _).mp e
        rw [maskB.eq_2 (meetB pl t) i, e, if_neg (by simp)]
  exact key t 0 (by omega)
theorem c_readLifts1 (s : CSh T dr pl mu lf F) (ws : WSh T dr pl mu lf) (h : ∀ F', Fr [24] F F' → (∀ t u, t < 8 → u < 8 → F' 24 (t * 8 + u) = nI (LC lf 30 t u)) → Qv F' G) : AMv D (d + 3) nCastSearch_readLifts [.ref 19] F G Qv := by
  have hT := s.1
  refine eCastSearch_readLifts ?_
  have key : ∀ k i F', i + k = 30 → Fr [24] F F' → (∀ t u, t < 8 → u < 8 → F' 24 (t * 8 + u) = nI (LC lf i t u)) → AWv D (d + 3) nCastSearch_readLifts 10 [(0, .ref 19), (1, .int (nI i))] [] F' G Qv := by
    intro k
    induction k with
    | zero =>
      intro i F' hi f1 f2
      refine bCastSearch_readLifts_10 ⟨fun _ => h F' f1 (by rw [show i = 30 by omega] at f2; exact f2), fun e => absurd ((le30 (by omega)).mpr (by omega)) e⟩
    | succ k ih =>
      intro i F' hi f1 f2
      have s' := CSh_fr f1 (by decide) s
      refine bCastSearch_readLifts_10 ⟨fun e => absurd ((le30 (by omega)).mp e) (by omega), fun _ => c_lifterIn1 s' (by omega) (c_liftedIn1 s' (by omega) ?_)⟩
      rw [nI_1]
      cases hl : lf i with
      | none =>
        have hn := ih (i + 1) F' (by omega) f1 (fun t u ht hu => by
          rw [f2 t u ht hu, LC, LC, cntB, hl, decide_eq_false (by intro z; cases z)]; rfl)
        exact c_isTrack s' (fun t ht e => absurd e.symm (nI_neN (by omega))) (fun _ => ⟨fun _ => hn, fun e => absurd rfl e⟩)
      | some q =>
        obtain ⟨x, y⟩ := q
        have hxy := ws.2.2.2 i x y hl
        have hx := ix64 (t := x) (u := y) (by omega) (by omega)
        refine c_isTrack1 s' (t := x) hxy.1 ⟨fun e => absurd e ne10, fun _ => c_isTrack1 s' (t := y) hxy.2.1 ⟨fun e => absurd e ne10, fun _ => ?_⟩⟩
        show vp_in (nI x * 8 + nI y) 64 ∧ vp_in (nI x * 8 + nI y) 64 ∧ AWv D (d + 3) nCastSearch_readLifts 10 [(0, .ref 19), (1, .int (nI (i + 1)))] [] (up F' 24 (nI x * 8 + nI y).toNatClampNeg ((F' 24 (nI x * 8 + nI y).toNatClampNeg) + 1)) G Qv
        refine ⟨hx.1, hx.1, ?_⟩
        rw [hx.2, f2 x y (by omega) (by omega), nI_1]
        refine ih (i + 1) _ (by omega) (f1.up (by decide)) (fun t u ht hu => ?_)
        rw [up_same, upd_i, show LC lf (i + 1) t u = LC lf i t u + (if decide (lf i = some (t, u)) then 1 else 0) from rfl, hl]
        by_cases e : t = x ∧ u = y
        · rw [if_pos (by omega), e.1, e.2, decide_eq_true rfl]; rfl
        · rw [if_neg (by omega), f2 t u ht hu, decide_eq_false (fun z => e (by cases z; exact ⟨rfl, rfl⟩))]; rfl
  refine key 30 0 _ (by omega) (Fr.rf.up (by decide)) (fun t u ht hu => ?_)
  rw [upA_i, if_pos rfl, gFl, if_pos (by omega)]
  rfl
theorem c_barred1 (v : CCo P Y kd sz ow dd rh fm ou F) (w : WCo T P Y kd sz ow dd rh fm ou) {tr : gTr} {t : Nat} (ht : t < 8) (h20 : F 20 t = nI (maskB (meetB pl t) t)) (h21 : F 21 t = nI (maskB (besideB pl t) t)) (hp : ∀ u, u < t → F 25 u = oN (tr u)) (hq : ∀ u p, tr u = some p → p < P) (h : Q (nI (barM pl fm tr t t)) F G) : AMi D (d + 3) nCastSearch_barred [.ref 19, .int (nI t)] F G Q := by
  have hP := v.1
  have hit := ix1 (n := 8) (c := t) (by omega) (by omega)
  have hf : ∀ p, fm p < 1024 := fun p => Nat.lt_of_lt_of_le (w.2.2.2.2.2.2.2.1 p) (Nat.pow_le_pow_right (n := 2) (by omega) (show P ≤ 10 from hP))
  have hq10 : ∀ u q, tr u = some q → q < 10 := fun u q e => by have := hq u q e; omega
  have b1 : ∀ (x : Int32), x = bI true ↔ x = 1 := fun x => Iff.rfl
  refine eCastSearch_barred ?_
  have key : ∀ k i, i + k = t → AWi D (d + 3) nCastSearch_barred 4 [(0, .ref 19), (1, .int (nI t)), (2, .int (nI (barM pl fm tr t i))), (3, .int (nI i))] [] F G Q := by
    intro k
    induction k with
    | zero =>
      intro i hi
      refine bCastSearch_barred_4 ?_
      rw [nI_leI (by omega) (by omega), show i = t by omega]
      exact ⟨fun _ => h, fun e => absurd (by omega) e⟩
    | succ k ih =>
      intro i hi
      have hn := ih (i + 1) (by omega)
      rw [← nI_1 i, barM] at hn
      have hix := ix1 (n := 8) (c := i) (by omega) (by omega)
      refine bCastSearch_barred_4 ?_
      rw [nI_leI (by omega) (by omega)]
      refine ⟨fun e => absurd e (by omega), fun _ => ⟨hix.1, ?_⟩⟩
      rw [hix.2, hit.2, hp i (by omega), h20]
      cases htr : tr i with
      | none =>
        rw [htr] at hn
        exact ⟨fun _ => bCastSearch_barred_45 ⟨fun _ => hn, fun e => absurd rfl e⟩, fun e => absurd rfl e⟩
      | some q =>
        rw [htr] at hn
        dsimp only at hn
        have hqq := hq i q htr
        have hmt : (maskB (meetB pl t) t).testBit i = meetB pl t i := by rw [maskB_bit, decide_eq_true (by omega), Bool.true_and]
        have hbt : (maskB (besideB pl t) t).testBit i = besideB pl t i := by rw [maskB_bit, decide_eq_true (by omega), Bool.true_and]
        have b45 : ∀ m : Nat, m = (if meetB pl t i then setb (barM pl fm tr t i) q true else barM pl fm tr t i) → AWi D (d + 3) nCastSearch_barred 45 [(0, .ref 19), (1, .int (nI t)), (2, .int (nI m)), (3, .int (nI i)), (4, .int (nI q))] [] F G Q := by
          intro m hm
          rw [← hm] at hn
          refine bCastSearch_barred_45 ⟨fun e => absurd e (nI_neN (by omega)), fun _ => ⟨hit.1, ?_⟩⟩
          rw [hit.2, h21, bt_and1 _ (maskB_lt (by omega)) i (by omega), hbt]
          refine ⟨fun e => ?_, fun e => c_foesOf1 v hqq ?_⟩
          · have e : besideB pl t i = false := by
              cases hb : besideB pl t i with
              | false => rfl
              | true => rw [hb] at e; exact absurd rfl e
            rw [e] at hn
            exact hn
          · have e : besideB pl t i = true := by
              cases hb : besideB pl t i with
              | true => rfl
              | false => rw [hb] at e; exact absurd e (by decide)
            rw [e, if_pos rfl, ← nI_or] at hn
            exact hn
        rw [bt_and1 _ (maskB_lt (by omega)) i (by omega), hmt]
        refine ⟨fun e => absurd e (nI_neN (by omega)), fun _ => ⟨hit.1, fun e => b45 _ ?_, fun e => ?_⟩⟩
        · cases hb : meetB pl t i with
          | false => rfl
          | true => rw [hb] at e; exact absurd rfl e
        · have e : meetB pl t i = true := by
            cases hb : meetB pl t i with
            | true => rfl
            | false => rw [hb] at e; exact absurd e (by decide)
          have := b45 (setb (barM pl fm tr t i) q true) (by rw [e]; rfl)
          rw [← bt_or _ (barM_lt hq10 hf i) q (by omega)] at this
          exact this
  exact key t 0 (by omega)
theorem c_liftLoss1 (v : CCo P Y kd sz ow dd rh fm ou F) (w : WCo T P Y kd sz ow dd rh fm ou) (hT : T ≤ 8) {tr : gTr} {t : Nat} (ht : t < T) (h24 : ∀ t u, t < T → u < T → F 24 (t * 8 + u) = nI (LC lf 30 t u)) (hp : ∀ u, u ≤ t → F 25 u = oN (tr u)) (hq : ∀ u p, tr u = some p → p < P) (h : Q (nI (liftL lf Y ow rh tr t)) F G) : AMi D (d + 4) nCastSearch_liftLoss [.ref 19, .int (nI t)] F G Q := by
  have hP := v.1
  have hit := ix1 (n := 8) (c := t) (by omega) (by omega)
  have hLC : ∀ a b, LC lf 30 a b ≤ 30 := fun a b => cntB_le _ 30
  have l0 : ∀ a b, (nI (LC lf 30 a b) ≤ 0) ↔ LC lf 30 a b = 0 := by
    intro a b
    have := hLC a b
    rw [← nI_0, nI_leI (by omega) (by omega)]
    omega
  refine eCastSearch_liftLoss ?_
  unfold liftL at h
  have key : ∀ k i, i + k = t → AWi D (d + 4) nCastSearch_liftLoss 4 [(0, .ref 19), (1, .int (nI t)), (2, .int (nI (sumN (fun u => LC lf 30 t u * dnN Y ow rh tr t u + LC lf 30 u t * dnN Y ow rh tr u t) i))), (3, .int (nI i))] [] F G Q := by
    intro k
    induction k with
    | zero =>
      intro i hi
      refine bCastSearch_liftLoss_4 ?_
      rw [nI_leI (by omega) (by omega), show i = t by omega]
      exact ⟨fun _ => h, fun e => absurd (by omega) e⟩
    | succ k ih =>
      intro i hi
      have hn := ih (i + 1) (by omega)
      rw [← nI_1 i, sumN] at hn
      have hix := ix1 (n := 8) (c := i) (by omega) (by omega)
      have h1 := ix64 (t := t) (u := i) (by omega) (by omega)
      have h2 := ix64 (t := i) (u := t) (by omega) (by omega)
      have b72 : ∀ m : Nat, m = sumN (fun u => LC lf 30 t u * dnN Y ow rh tr t u + LC lf 30 u t * dnN Y ow rh tr u t) i + LC lf 30 t i * dnN Y ow rh tr t i → AWi D (d + 4) nCastSearch_liftLoss 72 [(0, .ref 19), (1, .int (nI t)), (2, .int (nI m)), (3, .int (nI i)), (4, .int (nI (LC lf 30 t i))), (5, .int (nI (LC lf 30 i t)))] [] F G Q := by
        intro m hm
        rw [← Nat.add_assoc, ← hm] at hn
        refine bCastSearch_liftLoss_72 ?_
        rw [l0, hit.2, hix.2, hp i (by omega), hp t (by omega)]
        refine ⟨fun e => ?_, fun e => ⟨hix.1, hit.1, c_doLift1 v w hT (hq i) (hq t) (by omega) (by omega) ⟨fun e2 => ?_, fun e2 => ?_⟩⟩⟩
        · rw [e, Nat.zero_mul] at hn; exact hn
        · rw [dnN, if_pos ((bI_n0 _).mp e2), Nat.mul_zero] at hn; exact hn
        · rw [dnN, (bI_0 _).mp e2, if_neg (by simp), ← nI_add, ← pk_mul] at hn; exact hn
      refine bCastSearch_liftLoss_4 ?_
      rw [nI_leI (by omega) (by omega), h1.2, h2.2, hit.2, hix.2, h24 t i ht (by omega), h24 i t (by omega) ht, l0, hp i (by omega), hp t (by omega)]
      refine ⟨fun e => absurd e (by omega), fun _ => ⟨h1.1, h2.1, fun e => ?_, fun e => ⟨hit.1, hix.1, c_doLift1 v w hT (hq t) (hq i) (by omega) (by omega) ⟨fun e2 => b72 _ ?_, fun e2 => ?_⟩⟩⟩⟩
      · exact b72 _ (by rw [e, Nat.zero_mul]; rfl)
      · rw [dnN, if_pos ((bI_n0 _).mp e2), Nat.mul_zero]; rfl
      · have := b72 _ rfl
        rw [dnN, (bI_0 _).mp e2, if_neg (by simp), ← nI_add, ← pk_mul] at this
        exact this
  exact key t 0 (by omega)
end CREAD
