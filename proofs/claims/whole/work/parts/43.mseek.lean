/-! THE SEARCH, the model's side -/
section MSEEK
variable {D : va_G} {d : Nat} {Q : Int32 → gF → (Nat → Int64) → Prop} {Qv : gF → (Nat → Int64) → Prop} {F F' : gF} {G : Nat → Int64} {T P Y : Nat} {dr : Nat → Nat} {pl : Nat → Nat → Option Nat} {mu : Nat → Nat → Bool} {lf : Nat → Option (Nat × Nat)} {kd sz : Nat → Nat} {ow : Nat → Option Nat} {dd rh : Nat → Nat → Option Nat} {fm ou : Nat → Nat}
theorem m_isDoneT (s : MSh T dr pl mu lf F) (w : WSh T dr pl mu lf) (v : MCo P Y kd sz ow dd rh fm ou F) (wc : WCo T P Y kd sz ow dd rh fm ou) {by_ : Nat → Option Nat} (hb : ∀ t, t < T → F 55 t = oM (by_ t)) (hp : ∀ t p, by_ t = some p → p < P) {c x y : Nat} (hcu : c < 30) (hl : lf c = some (x, y)) (h : Q (bI (doneB Y ow rh (by_ x) x (by_ y) y)) F G) : AMi D (d + 2) nModel_isDone [.ref 39, .int (nI c), .ref 56] F G Q := by
  have hT := s.1
  have hP := v.1
  have hxy := w.2.2.2 c x y hl
  have hi := ix1 (n := 30) hcu (by omega)
  have hix := ix1 (n := 8) (c := x) (by omega) (by omega)
  have hiy := ix1 (n := 8) (c := y) (by omega) (by omega)
  have e42 : F 42 c = nI x := by rw [s.2.2.2.2.2.1 c hcu, hl]; rfl
  have e43 : F 43 c = nI y := s.2.2.2.2.2.2 c x y hcu hl
  have hsp : ∀ t k, by_ t = some k → k < 2 ^ 31 := fun t k hk => by have := hp t k hk; omega
  refine eModel_isDone_0 ?_
  rw [hi.2, e42, e43, hix.2, hiy.2, hb x hxy.1, hb y hxy.2.1, oM_neg (hsp x), oM_pos (hsp y)]
  refine ⟨hi.1, hix.1, hi.1, hiy.1, ?_⟩
  unfold doneB at h
  cases hx : by_ x with
  | none => rw [hx] at h; exact ⟨fun _ => h, fun e => absurd rfl e⟩
  | some p =>
    cases hy : by_ y with
    | none => rw [hx, hy] at h; exact ⟨fun e => (by cases e), fun _ => ⟨fun e => absurd rfl e, fun _ => h⟩⟩
    | some q =>
      rw [hx, hy] at h
      dsimp only at h
      have hpP := hp x p hx
      have hqP := hp y q hy
      have hip := ix1 (n := 10) (c := p) (by omega) (by omega)
      have hiq := ix1 (n := 10) (c := q) (by omega) (by omega)
      rw [oM_some, oM_some, hip.2, hiq.2, v.2.2.2.2.2.2.1 p hpP, v.2.2.2.2.2.2.1 q hqP, oM_eq (by omega) (fun k hk => by have := wc.2.2.1 p k hk; omega), oM_eq (by omega) (fun k hk => by have := wc.2.2.1 q k hk; omega)]
      have b61 : (decide (ow p = some x) && decide (ow q = some y)) = false → AWi D (d + 2) nModel_isDone 61 [(0, .ref 39), (1, .int (nI c)), (2, .ref 56), (3, .int (nI p)), (4, .int (nI q))] [] F G Q := by
        intro hz
        rw [hz, Bool.false_or] at h
        refine bModel_isDone_0_61 (m_isReh1 v wc hpP hqP ⟨fun e => ?_, fun e => ?_⟩)
        · rw [bI_0] at e; rw [e] at h; exact h
        · rw [bI_n0] at e; rw [e] at h; exact h
      refine ⟨fun e => (by cases e), fun _ => ⟨fun _ => ⟨hip.1, hi.1, fun e => b61 (by rw [decide_eq_false e]; rfl), fun e => ⟨hiq.1, hi.1, fun e2 => ?_, fun e2 => b61 (by rw [decide_eq_false e2]; simp)⟩⟩, fun e => absurd (by simp) e⟩⟩
      rw [decide_eq_true e, decide_eq_true e2] at h
      exact h
theorem m_lossOf1 (s : MSh T dr pl mu lf F) (ws : WSh T dr pl mu lf) (v : MCo P Y kd sz ow dd rh fm ou F) (w : WCo T P Y kd sz ow dd rh fm ou) {tr : gTr} (hb : ∀ t, t < T → F 55 t = oM (tr t)) (hq : ∀ t p, tr t = some p → p < P) {t : Nat} (ht : t < T) (h : Q (nI (ownL mu P Y kd ow dd tr t)) F G) : AMi D (d + 3) nModel_lossOf [.ref 39, .int (nI t)] F G Q := by
  have hT := s.1
  have hP := v.1
  have hit := ix1 (n := 8) (c := t) (by omega) (by omega)
  have hsp : ∀ u k, tr u = some k → k < 2 ^ 31 := fun u k hk => by have := hq u k hk; omega
  unfold ownL at h
  refine eModel_lossOf ⟨hit.1, ?_⟩
  rw [hit.2, hb t ht, oM_pos (hsp t)]
  cases htr : tr t with
  | none =>
    rw [htr] at h
    dsimp only at h
    refine ⟨fun e => absurd rfl e, fun _ => ?_⟩
    have key : ∀ k i, i + k = 30 → AWi D (d + 3) nModel_lossOf 17 [(0, .ref 39), (1, .int (nI t)), (2, .int (oM none)), (3, .int (nI (20 + 10 * cntB (mu t) i))), (4, .int (nI i))] [] F G Q := by
      intro k
      induction k with
      | zero =>
        intro i hi
        refine bModel_lossOf_17 ⟨fun _ => ?_, fun e => absurd ((le30 (by omega)).mpr (by omega)) e⟩
        rw [show i = 30 by omega]
        exact h
      | succ k ih =>
        intro i hi
        have hn := ih (i + 1) (by omega)
        rw [← nI_1 i, cntB, Nat.mul_add, ← Nat.add_assoc, ← nI_add] at hn
        obtain ⟨e1, e2⟩ := jx30 (t := t) (c := i) (by omega) (by omega)
        refine bModel_lossOf_17 ⟨fun e => absurd ((le30 (by omega)).mp e) (by omega), fun _ => m_is1 s ws ht (by omega) ⟨fun e => ?_, fun e => ⟨e1, ?_⟩⟩⟩
        · have e := (bI_0 _).mp e
          have hm : mu t i = false := by
            cases hm : mu t i with
            | false => rfl
            | true =>
              have := ws.2.2.1 t i hm
              unfold inB at e
              cases hp : pl t i with
              | none => exact absurd hp this
              | some k => rw [hp] at e; cases e
          rw [hm] at hn
          exact hn
        · rw [e2, s.2.2.2.2.1 t i (by omega) (by omega)]
          cases hm : mu t i with
          | false => rw [hm] at hn; exact hn
          | true => rw [hm] at hn; exact hn
    exact key 30 0 (by omega)
  | some p =>
    rw [htr] at h
    dsimp only at h
    have hpP := hq t p htr
    have hip := ix1 (n := 10) (c := p) (by omega) (by omega)
    refine ⟨fun _ => ?_, fun e => absurd (by simp) e⟩
    have fin : AWi D (d + 3) nModel_lossOf 69 [(0, .ref 39), (1, .int (nI t)), (2, .int (nI p)), (3, .int (nI (hadN tr p t))), (4, .int (nI t))] [] F G Q := by
      have b135 : ∀ s0 : Nat, covN P Y kd ow dd p t = (if freshB Y kd dd p t then 0 else 3) + s0 → ¬ ow p = some t → AWi D (d + 3) nModel_lossOf 135 [(0, .ref 39), (1, .int (nI t)), (2, .int (nI p)), (3, .int (nI (hadN tr p t))), (4, .int (nI t))] [.int (nI s0)] F G Q := by
        intro s0 hs0 hne
        rw [hs0] at h
        refine bModel_lossOf_135 (m_isFresh1 v w hpP (by omega) ⟨fun e => ?_, fun e => ?_⟩)
        · rw [(bI_0 _).mp e, if_neg (by simp), show 3 + s0 + hadN tr p t = hadN tr p t + s0 + 3 by omega, ← nI_add, ← nI_add] at h
          exact h
        · rw [(bI_n0 _).mp e, if_pos rfl, show 0 + s0 + hadN tr p t = hadN tr p t + s0 + 0 by omega, ← nI_add, ← nI_add] at h
          exact h
      refine bModel_lossOf_69 ?_
      rw [nI_leI (by omega) (by omega), hip.2, v.2.2.2.2.2.2.1 p hpP, oM_eq (by omega) (fun k hk => by have := w.2.2.1 p k hk; omega)]
      refine ⟨fun _ => ⟨hip.1, fun hne => m_owner1 v w hT (by omega) ?_, fun he => ?_⟩, fun e => absurd (by omega) e⟩
      · rw [oM_pos (fun k hk => by have := (firstB_lt hk).1; omega)]
        cases ho : ownerF ow t P with
        | none => exact ⟨fun e => absurd rfl e, fun _ => b135 0 (by unfold covN; rw [if_neg hne, ho]) hne⟩
        | some j =>
          refine ⟨fun _ => m_isSwing1 v w hpP ⟨fun e => b135 2 ?_ hne, fun e => b135 1 ?_ hne⟩, fun e => absurd (by simp) e⟩
          · unfold covN; rw [if_neg hne, ho, (bI_0 _).mp e]; rfl
          · unfold covN; rw [if_neg hne, ho, (bI_n0 _).mp e]; rfl
      · unfold covN at h
        rw [if_pos he, Nat.zero_add] at h
        exact h
    have key : ∀ k i, i + k = t → AWi D (d + 3) nModel_lossOf 69 [(0, .ref 39), (1, .int (nI t)), (2, .int (nI p)), (3, .int (nI (hadN tr p i))), (4, .int (nI i))] [] F G Q := by
      intro k
      induction k with
      | zero =>
        intro i hi
        rw [show i = t by omega]
        exact fin
      | succ k ih =>
        intro i hi
        have hn := ih (i + 1) (by omega)
        have hix := ix1 (n := 8) (c := i) (by omega) (by omega)
        rw [← nI_1 i, hadN, anyB] at hn
        refine bModel_lossOf_69 ?_
        rw [nI_leI (by omega) (by omega), hix.2, hb i (by omega), oM_eq (by omega) (hsp i)]
        refine ⟨fun e => absurd e (by omega), fun _ => ⟨hix.1, fun e => ?_, fun e => ?_⟩⟩
        · rw [decide_eq_false e, Bool.or_false] at hn
          exact hn
        · rw [decide_eq_true e, Bool.or_true, if_pos rfl] at hn
          exact hn
    exact key t 0 (by omega)
theorem m_loss1 (s : MSh T dr pl mu lf F) (ws : WSh T dr pl mu lf) (v : MCo P Y kd sz ow dd rh fm ou F) (w : WCo T P Y kd sz ow dd rh fm ou) {tr : gTr} (hb : ∀ t, t < T → F 55 t = oM (tr t)) (hq : ∀ t p, tr t = some p → p < P) (h : Q (nI (sumN (stepL mu lf P Y kd ow dd rh tr) T)) F G) : AMi D (d + 4) nModel_loss [.ref 39] F G Q := by
  have hT := s.1
  rw [← loss_eq (T := T) ws.2.2.2] at h
  have two : ∀ k i, i + k = 30 → AWi D (d + 4) nModel_loss 28 [(0, .ref 39), (1, .int (nI (sumN (ownL mu P Y kd ow dd tr) T + sumN (cueL lf (dnN Y ow rh tr)) i))), (2, .int (nI i))] [] F G Q := by
    intro k
    induction k with
    | zero =>
      intro i hi
      refine bModel_loss_28 ⟨fun _ => ?_, fun e => absurd ((le30 (by omega)).mpr (by omega)) e⟩
      rw [show i = 30 by omega]
      exact h
    | succ k ih =>
      intro i hi
      have hn := ih (i + 1) (by omega)
      have hix := ix1 (n := 30) (c := i) (by omega) (by omega)
      rw [← nI_1 i, sumN.eq_2 (cueL lf (dnN Y ow rh tr)), ← Nat.add_assoc, ← nI_add, cueL] at hn
      refine bModel_loss_28 ⟨fun e => absurd ((le30 (by omega)).mp e) (by omega), fun _ => ⟨hix.1, ?_⟩⟩
      rw [hix.2, s.2.2.2.2.2.1 i (by omega), oM_neg (fun k hk => mlfS s ws hk)]
      cases hl : lf i with
      | none => rw [hl] at hn; exact ⟨fun _ => hn, fun e => absurd rfl e⟩
      | some q =>
        obtain ⟨x, y⟩ := q
        rw [hl] at hn
        dsimp only at hn
        refine ⟨fun e => (by cases e), fun _ => m_isDoneT s ws v w hb hq (by omega) hl ⟨fun e => ?_, fun e => ?_⟩⟩
        · rw [dnN, if_pos ((bI_n0 _).mp e)] at hn; exact hn
        · rw [dnN, (bI_0 _).mp e, if_neg (by simp)] at hn; exact hn
  have one : ∀ k i, i + k = T → AWi D (d + 4) nModel_loss 4 [(0, .ref 39), (1, .int (nI (sumN (ownL mu P Y kd ow dd tr) i))), (2, .int (nI i))] [] F G Q := by
    intro k
    induction k with
    | zero =>
      intro i hi
      refine bModel_loss_4 ?_
      rw [s.2.1, nI_leI (by omega) (by omega)]
      refine ⟨fun _ => ?_, fun e => absurd (by omega) e⟩
      rw [show i = T by omega]
      exact two 30 0 (by omega)
    | succ k ih =>
      intro i hi
      have hn := ih (i + 1) (by omega)
      rw [← nI_1 i, sumN, ← nI_add] at hn
      refine bModel_loss_4 ?_
      rw [s.2.1, nI_leI (by omega) (by omega)]
      refine ⟨fun e => absurd e (by omega), fun _ => m_lossOf1 s ws v w hb hq (by omega) hn⟩
  exact eModel_loss (one T 0 (by omega))
theorem m_fits1 (s : MSh T dr pl mu lf F) (ws : WSh T dr pl mu lf) (v : MCo P Y kd sz ow dd rh fm ou F) (w : WCo T P Y kd sz ow dd rh fm ou) {tr : gTr} {p t : Nat} (hb : ∀ u, u < t → F 55 u = oM (tr u)) (hq : ∀ t p, tr t = some p → p < P) (hp : p < P) (ht : t < T) (h : Q (bI ((fitB dr pl sz ow dd fm ou) tr p t)) F G) : AMi D (d + 4) nModel_fits [.ref 39, .int (nI p), .int (nI t)] F G Q := by
  have hT := s.1
  have hP := v.1
  have hip := ix1 (n := 10) (c := p) (by omega) (by omega)
  have hf : ∀ p, fm p < 1024 := fun p => Nat.lt_of_lt_of_le (w.2.2.2.2.2.2.2.1 p) (Nat.pow_le_pow_right (n := 2) (by omega) (show P ≤ 10 from hP))
  have hsp : ∀ u k, tr u = some k → k < 2 ^ 31 := fun u k hk => by have := hq u k hk; omega
  unfold fitB okB at h
  refine eModel_fits (m_canHave1 s v ws w hp ht ⟨fun e => ?_, fun e => ⟨hip.1, ?_⟩⟩)
  · rw [(bI_0 _).mp e] at h; exact h
  · rw [(bI_n0 _).mp e, Bool.true_and] at h
    rw [hip.2, v.2.2.2.2.2.2.2.2.2.2 p hp]
    refine m_isInFrom1 s ws ht (w.2.2.2.2.2.2.2.2.2.2.1 p) ⟨fun e => ?_, fun e => ?_⟩
    · rw [(bI_0 _).mp e, Bool.not_false, Bool.true_and] at h
      have key : ∀ k i, i + k = t → anyB (barB pl fm tr p t) i = false → AWi D (d + 4) nModel_fits 27 [(0, .ref 39), (1, .int (nI p)), (2, .int (nI t)), (3, .int (nI i))] [] F G Q := by
        intro k
        induction k with
        | zero =>
          intro i hi ha
          refine bModel_fits_27 ?_
          rw [nI_leI (by omega) (by omega)]
          refine ⟨fun _ => ?_, fun e => absurd (by omega) e⟩
          rw [show i = t by omega] at ha
          rw [ha] at h
          exact h
        | succ k ih =>
          intro i hi ha
          have hix := ix1 (n := 8) (c := i) (by omega) (by omega)
          have go : barB pl fm tr p t i = false → AWi D (d + 4) nModel_fits 27 [(0, .ref 39), (1, .int (nI p)), (2, .int (nI t)), (3, .int (nI i + 1))] [] F G Q := by
            intro hz
            rw [nI_1]
            exact ih (i + 1) (by omega) (anyB_s ha hz)
          have bad : barB pl fm tr p t i = true → Q 0 F G := by
            intro hz
            rw [anyB_hit (c := i) (by omega) hz] at h
            exact h
          unfold barB at go bad
          refine bModel_fits_27 ?_
          rw [nI_leI (by omega) (by omega), hix.2, hb i (by omega), oM_eq (by omega) (hsp i)]
          refine ⟨fun e => absurd e (by omega), fun _ => ⟨hix.1, ?_⟩⟩
          cases htr : tr i with
          | none =>
            rw [htr] at go
            exact ⟨fun _ => bModel_fits_55 ⟨fun _ => go rfl, fun e => absurd (by decide) e⟩, fun e => (by cases e)⟩
          | some q =>
            rw [htr] at go bad
            dsimp only at go bad
            have hqP := hq i q htr
            by_cases e : q = p
            · subst e
              have e0 : (fm q).testBit q = false := w.2.2.2.2.2.2.2.2.2.1 q
              rw [decide_eq_true rfl, Bool.true_and, e0, Bool.false_and, Bool.or_false] at go bad
              refine ⟨fun e => absurd rfl e, fun _ => m_meet1 s ws ht (by omega) ⟨fun e => bad ((bI_n0 _).mp e), fun e => bModel_fits_55 ⟨fun e2 => absurd e2 (nI_pos (by omega)), fun _ => ⟨fun _ => go ((bI_0 _).mp e), fun e2 => absurd rfl e2⟩⟩⟩⟩
            · rw [decide_eq_false e, Bool.false_and, Bool.false_or] at go bad
              refine ⟨fun _ => bModel_fits_55 ⟨fun e2 => absurd e2 (nI_pos (by omega)), fun _ => ⟨fun e2 => absurd (nI_inj (by omega) (by omega) e2) e, fun _ => ⟨hip.1, ?_⟩⟩⟩, fun e2 => absurd (by cases e2; rfl) e⟩
              rw [hip.2, v.2.2.2.2.2.2.2.2.2.1 p (by omega), oM_some, bt_and1 _ (hf p) q (by omega)]
              cases hbit : (fm p).testBit q with
              | false => rw [hbit] at go; exact ⟨fun _ => go rfl, fun e3 => absurd e3 (by decide)⟩
              | true =>
                rw [hbit, Bool.true_and] at go bad
                exact ⟨fun e3 => absurd rfl e3, fun _ => m_areBeside1 s ws ht (by omega) ⟨fun e4 => go ((bI_0 _).mp e4), fun e4 => bad ((bI_n0 _).mp e4)⟩⟩
      exact key t 0 (by omega) rfl
    · rw [(bI_n0 _).mp e] at h; exact h
def bmI (b : gBst) : Int32 := match b with
  | none => -1
  | some (l, _) => nI l
def MSP (T t : Nat) (tr : gTr) (n : Nat) (b : gBst) (F : gF) : Prop := (∀ u, u < t → F 55 u = oM (tr u)) ∧ F 115 0 = nI n ∧ n ≤ 30000 ∧ F 114 0 = bmI b ∧ (∀ l w, b = some (l, w) → ∀ u, u < T → F 56 u = oM (w u))
theorem MSP_fr {ks : List Nat} {t n : Nat} {tr : gTr} {b : gBst} (hf : Fr ks F F') (hd : ∀ k ∈ [55, 56, 114, 115], k ∉ ks) (s : MSP T t tr n b F) : MSP T t tr n b F' := by
  obtain ⟨h1, h3, h4, h5, h6⟩ := s
  refine ⟨?_, ?_, h4, ?_, ?_⟩
  · rw [hf 55 (hd 55 (by decide))]; exact h1
  · rw [hf 115 (hd 115 (by decide))]; exact h3
  · rw [hf 114 (hd 114 (by decide))]; exact h5
  · rw [hf 56 (hd 56 (by decide))]; exact h6
theorem MSP_push {t n n' : Nat} {tr : gTr} {b : gBst} {o : Option Nat} (hf : Fr [55, 115] F F') (h25 : ∀ u, F' 55 u = if u = t then oM o else F 55 u) (h105 : F' 115 0 = nI n') (hn : n' ≤ 30000) (s : MSP T t tr n b F) : MSP T (t + 1) (up1 tr t o) n' b F' := by
  obtain ⟨h1, h3, h4, h5, h6⟩ := s
  refine ⟨fun u hu => ?_, h105, hn, ?_, ?_⟩
  · rw [h25 u, up1]
    by_cases e : u = t
    · rw [if_pos e, if_pos e]
    · rw [if_neg e, if_neg e]; exact h1 u (by omega)
  · rw [hf 114 (by decide)]; exact h5
  · rw [hf 56 (by decide)]; exact h6
theorem MSP_pop {t n : Nat} {tr : gTr} {b : gBst} {o : Option Nat} (s : MSP T (t + 1) (up1 tr t o) n b F) : MSP T t tr n b F := by
  obtain ⟨h1, h3, h4, h5, h6⟩ := s
  exact ⟨fun u hu => by rw [h1 u (by omega), up1, if_neg (by omega)], h3, h4, h5, h6⟩
theorem m_tryFrom1 (hT : T ≤ 8) (ws : WSh T dr pl mu lf) (w : WCo T P Y kd sz ow dd rh fm ou) : ∀ (r t : Nat) (tr : gTr) (n : Nat) (b : gBst) (e : Nat) (F : gF) (Qv : gF → (Nat → Int64) → Prop), t + r = T → r + 5 ≤ e → MSh T dr pl mu lf F → MCo P Y kd sz ow dd rh fm ou F → MSP T t tr n b F → (∀ u p, tr u = some p → p < P) → goodB P b → F 116 0 = 0 → (∀ F', Fr [55, 56, 114, 115, 116] F F' → MSP T t tr (seekS P (fitB dr pl sz ow dd fm ou) (fun tr => sumN (stepL mu lf P Y kd ow dd rh tr) T) r t tr n b).1 (seekS P (fitB dr pl sz ow dd fm ou) (fun tr => sumN (stepL mu lf P Y kd ow dd rh tr) T) r t tr n b).2.2 F' → F' 116 0 = bI (seekS P (fitB dr pl sz ow dd fm ou) (fun tr => sumN (stepL mu lf P Y kd ow dd rh tr) T) r t tr n b).2.1 → Qv F' G) → AMv D e nModel_tryFrom [.ref 39, .int (nI t)] F G Qv := by
  intro r
  induction r with
  | zero =>
    intro t tr n b e F Qv ht he s v sp hq hb h116 h
    obtain ⟨e', rfl⟩ : ∃ e', e = e' + 5 := ⟨e - 5, by omega⟩
    have ht : t = T := by omega
    subst ht
    obtain ⟨h1, h3, h4, h5, h6⟩ := sp
    have hl := acc_lt (mu := mu) (lf := lf) (P := P) (Y := Y) (kd := kd) (ow := ow) (dd := dd) (rh := rh) (tr := tr) hT
    have b35 : keepS (sumN (stepL mu lf P Y kd ow dd rh tr) t) tr b = some (sumN (stepL mu lf P Y kd ow dd rh tr) t, tr) → AWv D (e' + 5) nModel_tryFrom 35 [(0, .ref 39), (1, .int (nI t)), (2, .int (nI (sumN (stepL mu lf P Y kd ow dd rh tr) t))), (3, .int 0)] [] (upS F 114 (nI (sumN (stepL mu lf P Y kd ow dd rh tr) t))) G Qv := by
      intro hk
      have key : ∀ k i F', i + k = t → Fr [56, 114] F F' → F' 114 0 = nI (sumN (stepL mu lf P Y kd ow dd rh tr) t) → (∀ u, u < i → F' 56 u = oM (tr u)) → AWv D (e' + 5) nModel_tryFrom 35 [(0, .ref 39), (1, .int (nI t)), (2, .int (nI (sumN (stepL mu lf P Y kd ow dd rh tr) t))), (3, .int (nI i))] [] F' G Qv := by
        intro k
        induction k with
        | zero =>
          intro i F' hi f1 f2 f3
          refine bModel_tryFrom_35 ?_
          rw [f1 110 (by decide), s.2.1, nI_leI (by omega) (by omega)]
          refine ⟨fun _ => h F' (f1.sub (by decide)) ⟨fun u hu => ?_, ?_, h4, ?_, fun l w e u hu => ?_⟩ ?_, fun e => absurd (by omega) e⟩
          · rw [f1 55 (by decide)]; exact h1 u hu
          · rw [f1 115 (by decide)]; exact h3
          · rw [f2]
            show _ = bmI (keepS (sumN (stepL mu lf P Y kd ow dd rh tr) t) tr b)
            rw [hk]
            rfl
          · have e : keepS (sumN (stepL mu lf P Y kd ow dd rh tr) t) tr b = some (l, w) := e
            rw [hk] at e
            cases e
            exact f3 u (by omega)
          · rw [f1 116 (by decide)]; exact h116
        | succ k ih =>
          intro i F' hi f1 f2 f3
          have hix := ix1 (n := 8) (c := i) (by omega) (by omega)
          refine bModel_tryFrom_35 ?_
          rw [f1 110 (by decide), s.2.1, nI_leI (by omega) (by omega)]
          refine ⟨fun e => absurd e (by omega), fun _ => ⟨hix.1, hix.1, ?_⟩⟩
          rw [hix.2, f1 55 (by decide), h1 i (by omega), nI_1]
          refine ih (i + 1) _ (by omega) (f1.up (by decide)) (by rw [up_ne _ _ _ (by decide)]; exact f2) (fun u hu => ?_)
          rw [up_same, upd_i]
          by_cases e : u = i
          · rw [if_pos e, e]
          · rw [if_neg e]; exact f3 u (by omega)
      exact key t 0 _ (by omega) (Fr.rf.up (by decide)) (by rw [upS_same]) (fun u hu => absurd hu (by omega))
    refine eModel_tryFrom ?_
    rw [s.2.1]
    refine ⟨fun e => absurd rfl e, fun _ => m_loss1 s ws v w h1 hq ?_⟩
    rw [h5]
    cases hbb : b with
    | none => exact ⟨fun _ => b35 (by rw [hbb]; rfl), fun e => absurd (by decide) e⟩
    | some q =>
      obtain ⟨l0, w0⟩ := q
      have hg := (hb l0 w0 hbb).1
      show ((nI l0 < 0 → _) ∧ (¬ nI l0 < 0 → ((nI l0 ≤ _ → _) ∧ (¬ nI l0 ≤ _ → _))))
      rw [nI_leI (by omega) (by omega)]
      refine ⟨fun e => absurd e (nI_pos (by omega)), fun _ => ⟨fun e => h F Fr.rf ?_ h116, fun e => b35 ?_⟩⟩
      · have hk : keepS (sumN (stepL mu lf P Y kd ow dd rh tr) t) tr b = b := by
          rw [hbb]
          unfold keepS
          dsimp only
          rw [if_neg (by omega)]
        show MSP t t tr n (keepS (sumN (stepL mu lf P Y kd ow dd rh tr) t) tr b) F
        rw [hk]
        exact ⟨h1, h3, h4, h5, h6⟩
      · rw [hbb]
        unfold keepS
        dsimp only
        rw [if_pos (by omega)]
  | succ r IH =>
    intro t tr n b e F Qv ht he s v sp hq hb h116 h
    obtain ⟨e', rfl⟩ : ∃ e', e = e' + 6 := ⟨e - 6, by omega⟩
    have htT : t < T := by omega
    have hP := v.1
    have hit := ix1 (n := 8) (c := t) (by omega) (by omega)
    refine eModel_tryFrom ?_
    rw [s.2.1, nI_eq (by omega) (by omega)]
    refine ⟨fun _ => ?_, fun e => absurd e (by omega)⟩
    have key : ∀ k p n b F', p + k = P → Fr [55, 56, 114, 115, 116] F F' → MSP T t tr n b F' → goodB P b → F' 116 0 = 0 → (∀ F2, Fr [55, 56, 114, 115, 116] F' F2 → MSP T t tr (loopS (fun p => (fitB dr pl sz ow dd fm ou) tr p t) (fun o n b => seekS P (fitB dr pl sz ow dd fm ou) (fun tr => sumN (stepL mu lf P Y kd ow dd rh tr) T) r (t + 1) (up1 tr t o) n b) k p n b).1 (loopS (fun p => (fitB dr pl sz ow dd fm ou) tr p t) (fun o n b => seekS P (fitB dr pl sz ow dd fm ou) (fun tr => sumN (stepL mu lf P Y kd ow dd rh tr) T) r (t + 1) (up1 tr t o) n b) k p n b).2.2 F2 → F2 116 0 = bI (loopS (fun p => (fitB dr pl sz ow dd fm ou) tr p t) (fun o n b => seekS P (fitB dr pl sz ow dd fm ou) (fun tr => sumN (stepL mu lf P Y kd ow dd rh tr) T) r (t + 1) (up1 tr t o) n b) k p n b).2.1 → Qv F2 G) → AWv D (e' + 6) nModel_tryFrom 64 [(0, .ref 39), (1, .int (nI t)), (2, .int (nI p))] [] F' G Qv := by
      intro k
      induction k with
      | zero =>
        intro p n b F' hp f1 sp hb h116 h
        have v' := MCo_fr f1 (by decide) v
        refine bModel_tryFrom_64 ?_
        rw [v'.2.1, nI_leI (by omega) (by omega)]
        refine ⟨fun _ => bModel_tryFrom_134 ⟨fun e => absurd h116 e, fun _ => ⟨hit.1, ?_⟩⟩, fun z => absurd (by omega) z⟩
        rw [hit.2, nI_1]
        have f2 : Fr [55] F' (up F' 55 t (-1)) := Fr.rf.up (by decide)
        have sp2 : MSP T (t + 1) (up1 tr t none) n b (up F' 55 t (-1)) := MSP_push (f2.sub (by decide)) (fun u => by rw [up_i, if_pos rfl]; rfl) (by rw [up_ne _ _ _ (by decide)]; exact sp.2.1) sp.2.2.1 sp
        have g116 : (up F' 55 t (-1)) 116 0 = 0 := by rw [up_ne _ _ _ (by decide)]; exact h116
        generalize (up F' 55 t (-1)) = F2 at f2 sp2 g116 ⊢
        have f12 : Fr [55, 56, 114, 115, 116] F F2 := (f1.tr f2).sub (by decide)
        exact IH (t + 1) (up1 tr t none) n b (e' + 5) F2 _ (by omega) (by omega) (MSh_fr f12 (by decide) s) (MCo_fr f12 (by decide) v) sp2 (up1_lt hq (fun _ z => by cases z)) hb g116 (fun F3 f3 sp3 g3 => h F3 ((f2.tr f3).sub (by decide)) (MSP_pop sp3) g3)
      | succ k ih =>
        intro p n b F' hp f1 sp hb h116 h
        have v' := MCo_fr f1 (by decide) v
        have s' := MSh_fr f1 (by decide) s
        rw [loopS] at h
        refine bModel_tryFrom_64 ?_
        rw [v'.2.1, nI_leI (by omega) (by omega), hit.2]
        refine ⟨fun z => absurd z (by omega), fun _ => ⟨fun z => absurd h116 z, fun _ => m_fits1 s' ws v' w sp.1 hq (by omega) htT ⟨fun z => ?_, fun z => ?_⟩⟩⟩
        · rw [(bI_n0 _).mp z, if_pos rfl] at h
          have hn30 := sp.2.2.1
          have hz0 : nI n = 0 ↔ n = 0 := by
            rw [← nI_0]
            exact nI_eq (by omega) (by omega)
          rw [sp.2.1, hz0]
          refine ⟨fun hn => ⟨hit.1, ?_⟩, fun hn => ?_⟩
          · rw [if_neg hn] at h
            obtain ⟨m, rfl⟩ : ∃ m, n = m + 1 := ⟨n - 1, by omega⟩
            rw [nI_pred, nI_1]
            rw [Nat.add_sub_cancel] at h
            have f2 : Fr [55, 115] F' (up (upS F' 115 (nI m)) 55 t (nI p)) := (Fr.rf.up (by decide)).up (by decide)
            have sp2 : MSP T (t + 1) (up1 tr t (some p)) m b (up (upS F' 115 (nI m)) 55 t (nI p)) := MSP_push f2 (fun u => by rw [up_i, if_pos rfl, upS_ne _ _ (by decide)]; rfl) (by rw [up_ne _ _ _ (by decide), upS_same]) (by omega) sp
            have g116 : (up (upS F' 115 (nI m)) 55 t (nI p)) 116 0 = 0 := by rw [f2 116 (by decide)]; exact h116
            generalize (up (upS F' 115 (nI m)) 55 t (nI p)) = F2 at f2 sp2 g116 ⊢
            have f12 : Fr [55, 56, 114, 115, 116] F F2 := (f1.tr f2).sub (by decide)
            have hq2 : ∀ u q, up1 tr t (some p) u = some q → q < P := up1_lt hq (fun _ z => by cases z; omega)
            have hb4 := seekS_good (fit := (fitB dr pl sz ow dd fm ou)) (L := (fun tr => sumN (stepL mu lf P Y kd ow dd rh tr) T)) (fun tr => acc_lt hT) r (t + 1) (up1 tr t (some p)) m b hq2 hb
            refine IH (t + 1) (up1 tr t (some p)) m b (e' + 5) F2 _ (by omega) (by omega) (MSh_fr f12 (by decide) s) (MCo_fr f12 (by decide) v) sp2 hq2 hb g116 (fun F3 f3 sp3 g3 => ?_)
            have sp4 := MSP_pop sp3
            rw [nI_1 p]
            have f14 : Fr [55, 56, 114, 115, 116] F' F3 := (f2.tr f3).sub (by decide)
            cases hsp : (seekS P (fitB dr pl sz ow dd fm ou) (fun tr => sumN (stepL mu lf P Y kd ow dd rh tr) T) r (t + 1) (up1 tr t (some p)) m b).2.1 with
            | false =>
              rw [hsp, if_neg (by simp)] at h
              rw [hsp] at g3
              exact ih (p + 1) _ _ F3 (by omega) ((f1.tr f14).sub (by decide)) sp4 hb4 g3 (fun F5 f5 sp5 g5 => h F5 ((f14.tr f5).sub (by decide)) sp5 g5)
            | true =>
              rw [if_pos hsp] at h
              have hv3 := MCo_fr ((f1.tr f14).sub (by decide) : Fr [55, 56, 114, 115, 116] F F3) (by decide) v
              have hend := h F3 f14 sp4 g3
              rw [hsp] at g3
              have b134 : AWv D (e' + 6) nModel_tryFrom 134 [(0, .ref 39), (1, .int (nI t)), (2, .int (nI (p + 1)))] [] F3 G Qv := bModel_tryFrom_134 ⟨fun _ => hend, fun e => absurd e (by rw [g3]; exact ne10)⟩
              refine bModel_tryFrom_64 ⟨fun _ => b134, fun _ => ⟨fun _ => b134, fun e => absurd e (by rw [g3]; exact ne10)⟩⟩
          · subst hn
            rw [if_pos rfl] at h
            have f2 : Fr [116] F' (upS F' 116 1) := Fr.rf.up (by decide)
            exact h _ (f2.sub (by decide)) (MSP_fr f2 (by decide) sp) (by rw [upS_same]; rfl)
        · rw [(bI_0 _).mp z, if_neg (by simp)] at h
          rw [nI_1]
          exact ih (p + 1) n b F' (by omega) f1 sp hb h116 h
    exact key P 0 n b F (by omega) Fr.rf sp hb h116 h
theorem m_cast51 (s : MSh T dr pl mu lf F) {wv : gTr} (h56 : ∀ u, u < T → F 56 u = oM (wv u)) (h113 : F 113 0 = 1) {x1 : Int32} (h : ∀ F', MNi true (cTr T wv) (fun t _ => cTr T wv t) F' → Fr [51, 52] F F' → Q (F 114 0) F' G) : AWi D (d + 1) nModel_cast 51 [(0, .ref 39), (1, .int x1), (2, .int 0)] [] F G Q := by
  have hT := s.1
  have key : ∀ k i F', i + k = 8 → Fr [51, 52] F F' → (∀ u, u < i → F' 51 u = oM (cTr T wv u)) → (∀ u c, u < i → c < 30 → F' 52 (u * 30 + c) = oM (cTr T wv u)) → AWi D (d + 1) nModel_cast 51 [(0, .ref 39), (1, .int x1), (2, .int (nI i))] [] F' G Q := by
    intro k
    induction k with
    | zero =>
      intro i F' hi f1 f2 f3
      refine bModel_cast_51 ?_
      rw [l8, nI_leI (by omega) (by omega), f1 114 (by decide)]
      refine ⟨fun _ => h F' ⟨?_, fun _ t ht => f2 t (by omega), fun _ t c ht hc => f3 t c (by omega) hc⟩ f1, fun e => absurd (by omega) e⟩
      rw [f1 113 (by decide), h113]
      rfl
    | succ k ih =>
      intro i F' hi f1 f2 f3
      have hix := ix1 (n := 8) (c := i) (by omega) (by omega)
      have inner : ∀ F1, Fr [51, 52] F F1 → (∀ u, u < i + 1 → F1 51 u = oM (cTr T wv u)) → (∀ u c, u < i → c < 30 → F1 52 (u * 30 + c) = oM (cTr T wv u)) → ∀ k j F2, j + k = 30 → Fr [51, 52] F F2 → F2 51 = F1 51 → (∀ u c, u < i → c < 30 → F2 52 (u * 30 + c) = oM (cTr T wv u)) → (∀ c, c < j → F2 52 (i * 30 + c) = oM (cTr T wv i)) → AWi D (d + 1) nModel_cast 83 [(0, .ref 39), (1, .int x1), (2, .int (nI i)), (3, .int (nI j))] [] F2 G Q := by
        intro F1 g1 g2 g3 k
        induction k with
        | zero =>
          intro j F2 hj e1 e2 e3 e4
          refine bModel_cast_83 ⟨fun _ => ?_, fun e => absurd ((le30 (by omega)).mpr (by omega)) e⟩
          rw [nI_1]
          refine ih (i + 1) F2 (by omega) e1 (by rw [e2]; exact g2) (fun u c hu hc => ?_)
          by_cases e : u = i
          · rw [e]; exact e4 c (by omega)
          · exact e3 u c (by omega) hc
        | succ k ih2 =>
          intro j F2 hj e1 e2 e3 e4
          obtain ⟨q1, q2⟩ := jx30 (t := i) (c := j) (by omega) (by omega)
          refine bModel_cast_83 ⟨fun e => absurd ((le30 (by omega)).mp e) (by omega), fun _ => ⟨hix.1, q1, ?_⟩⟩
          rw [q2, hix.2, e2, g2 i (by omega), nI_1]
          refine ih2 (j + 1) _ (by omega) (e1.up (by decide)) (by rw [up_ne _ _ _ (by decide)]; exact e2) (fun u c hu hc => ?_) (fun c hc => ?_)
          · rw [up_same, upd_i, if_neg (by omega)]; exact e3 u c hu hc
          · rw [up_same, upd_i]
            by_cases e : c = j
            · rw [if_pos (by omega)]
            · rw [if_neg (by omega)]; exact e4 c (by omega)
      have put : ∀ x : Int32, x = oM (cTr T wv i) → AWi D (d + 1) nModel_cast 83 [(0, .ref 39), (1, .int x1), (2, .int (nI i)), (3, .int 0)] [] (up F' 51 i x) G Q := by
        intro x hx
        have e3 : ∀ u c, u < i → c < 30 → (up F' 51 i x) 52 (u * 30 + c) = oM (cTr T wv u) := fun u c hu hc => by rw [up_ne _ _ _ (by decide)]; exact f3 u c hu hc
        refine inner (up F' 51 i x) (f1.up (by decide)) (fun u hu => ?_) e3 30 0 _ (by omega) (f1.up (by decide)) rfl e3 (fun c hc => absurd hc (by omega))
        rw [up_same, upd_i]
        by_cases e : u = i
        · rw [if_pos e, hx, e]
        · rw [if_neg e]; exact f2 u (by omega)
      refine bModel_cast_51 ?_
      rw [l8, nI_leI (by omega) (by omega), f1 110 (by decide), s.2.1, nI_leI (by omega) (by omega), hix.2]
      refine ⟨fun e => absurd e (by omega), fun _ => ⟨fun e => ⟨hix.1, put (-1) ?_⟩, fun e => ⟨hix.1, hix.1, put _ ?_⟩⟩⟩
      · unfold cTr; rw [if_neg (by omega)]; rfl
      · rw [f1 56 (by decide), h56 i (by omega)]
        unfold cTr
        rw [if_pos (by omega)]
  exact key 8 0 F (by omega) Fr.rf (fun u hu => absurd hu (by omega)) (fun u c hu => absurd hu (by omega))
end MSEEK
section STCAST
variable {D : va_G} {d : Nat}
theorem cTr_lt {T P : Nat} {w : gTr} (h : ∀ u p, w u = some p → p < P) : ∀ u p, cTr T w u = some p → p < P := by
  intro u p e
  unfold cTr at e
  split at e
  · exact h u p e
  · cases e
theorem st_cast {a : Int32} : Step D (d + 24) nDesk_cast nModel_cast [.int a] := by
  intro F G ⟨T, dr, pl, mu, lf, P, Y, kd, sz, ow, dd, rh, fm, ou, hc, ca, ho, sl, sv, hS, hC, hN, hT⟩
  have same : ∀ F1, Fr [19, 20, 21, 22, 23, 24, 25, 26, 27, 104, 105, 106, 55, 56, 114, 115, 116] F F1 → RI F1 := fun F1 f1 => ⟨T, dr, pl, mu, lf, P, Y, kd, sz, ow, dd, rh, fm, ou, hc, ca, ho, sl, sv, RS_fr f1 (by decide) hS, RC_fr f1 (by decide) hC, RN_fr f1 (by decide) hN, RT_fr f1 (by decide) hT⟩
  have hT8 := hS.1.1
  refine eDesk_cast (c_isWithin (fun q1 q2 => ⟨fun _ => ?_, fun e => absurd e ne10⟩) (fun z => ⟨fun e => absurd rfl e, fun _ => eModel_cast (m_isIn (fun z1 z2 => absurd ⟨z1, z2⟩ z) (fun _ => ⟨fun e => absurd rfl e, fun _ => ⟨rfl, same F Fr.rf⟩⟩))⟩))
  obtain ⟨n, -, hn, rfl⟩ := rng 1 30000 (by omega) (by omega) q1 q2
  refine c_least1 hS.1 hS.2.2 hC.1 hC.2.2 hn (fun F1 f1 => ?_)
  -- the model, after the class's search (and its night)
  have mod : ∀ (F2 : gF) (R : Int32 → Prop), Fr [16, 17, 103, 19, 20, 21, 22, 23, 24, 25, 26, 27, 104, 105, 106] F F2 → ∀ (G : Nat → Int64), ((seekS P (fitB dr pl sz ow dd fm ou) (fun tr => sumN (stepL mu lf P Y kd ow dd rh tr) T) T 0 (fun _ => none) n none).2.1 = true → R (-1000000004) ∧ ∀ F3, Fr [55, 56, 114, 115, 116] F2 F3 → RI F3) → (∀ l wv, (seekS P (fitB dr pl sz ow dd fm ou) (fun tr => sumN (stepL mu lf P Y kd ow dd rh tr) T) T 0 (fun _ => none) n none).2.1 = false → (seekS P (fitB dr pl sz ow dd fm ou) (fun tr => sumN (stepL mu lf P Y kd ow dd rh tr) T) T 0 (fun _ => none) n none).2.2 = some (l, wv) → R (nI l) ∧ ∀ F3, Fr [113, 51, 52, 55, 56, 114, 115, 116] F2 F3 → MNi true (cTr T wv) (fun t _ => cTr T wv t) F3 → RI F3) → AMi D (d + 24) nModel_cast [.ref 39, .int (nI n)] F2 G (fun r' F3 _ => R r' ∧ RI F3) := by
    intro F2 R f2 G hsp hok
    refine eModel_cast (m_isIn (fun _ _ => ⟨fun _ => ?_, fun e => absurd e ne10⟩) (fun z => absurd ⟨q1, q2⟩ z))
    have f3 : Fr [55, 56, 114, 115, 116] F2 (upS (upS (upS F2 114 (-1)) 115 (nI n)) 116 0) := ((Fr.rf.up (by decide)).up (by decide)).up (by decide)
    have sp3 : MSP T 0 (fun _ => none) n none (upS (upS (upS F2 114 (-1)) 115 (nI n)) 116 0) := by
      refine ⟨fun u hu => absurd hu (by omega), ?_, hn, ?_, fun l w e => by cases e⟩
      · rw [upS_ne _ _ (by decide), upS_same]
      · rw [upS_ne _ _ (by decide), upS_ne _ _ (by decide), upS_same]; rfl
    have g3 : (upS (upS (upS F2 114 (-1)) 115 (nI n)) 116 0) 116 0 = 0 := by rw [upS_same]
    generalize (upS (upS (upS F2 114 (-1)) 115 (nI n)) 116 0) = F3 at f3 sp3 g3 ⊢
    have f03 := f2.tr f3
    refine m_tryFrom1 hT8 hS.2.2 hC.2.2 T 0 (fun _ => none) n none (d + 23) F3 _ (by omega) (by omega) (MSh_fr f03 (by decide) hS.2.1) (MCo_fr f03 (by decide) hC.2.1) sp3 (fun u p e => by cases e) (fun l w e => by cases e) g3 (fun F4 f4 sp4 g4 => ?_)
    have f04 := f03.tr f4
    rw [g4]
    refine ⟨fun e => ?_, fun e => ?_⟩
    · have e := (bI_0 _).mp e
      have hsome := seekS_some (P := P) (fit := (fitB dr pl sz ow dd fm ou)) (L := (fun tr => sumN (stepL mu lf P Y kd ow dd rh tr) T)) T 0 (fun _ => none) n none e
      cases hb : (seekS P (fitB dr pl sz ow dd fm ou) (fun tr => sumN (stepL mu lf P Y kd ow dd rh tr) T) T 0 (fun _ => none) n none).2.2 with
      | none => exact absurd hb hsome
      | some q =>
        obtain ⟨l, wv⟩ := q
        have hr := hok l wv e hb
        have e114 := sp4.2.2.2.1
        rw [hb] at e114
        refine m_cast51 (F := upS F4 113 1) (T := T) (dr := dr) (pl := pl) (mu := mu) (lf := lf) (MSh_fr (f04.tr (Fr.rf.up (by decide) : Fr [113] F4 _)) (by decide) hS.2.1) (wv := wv) (fun u hu => ?_) (by rw [upS_same]) (fun F5 n5 f5 => ?_)
        · rw [upS_ne _ _ (by decide)]; exact sp4.2.2.2.2 l wv hb u hu
        · rw [upS_ne _ _ (by decide), e114]
          exact ⟨hr.1, hr.2 F5 ((((f3.tr f4).tr (Fr.rf.up (by decide) : Fr [113] F4 _)).tr f5).sub (by decide)) n5⟩
    · have e := (bI_n0 _).mp e
      have hr := hsp e
      exact ⟨hr.1, hr.2 F4 ((f3.tr f4).sub (by decide))⟩
  refine ⟨fun hsp => ⟨fun _ => mod F1 (fun r' => (-1000000004 : Int32) = r') (f1.sub (by decide)) G (fun _ => ⟨rfl, fun F3 f3 => same F3 ((f1.tr f3).sub (by decide))⟩) (fun l wv e => by rw [hsp] at e; cases e), fun e => absurd rfl e⟩, fun l wv hsp hb h27 => ?_⟩
  have hgood := seekS_good (P := P) (fit := (fitB dr pl sz ow dd fm ou)) (L := (fun tr => sumN (stepL mu lf P Y kd ow dd rh tr) T)) (fun tr => acc_lt hT8) T 0 (fun _ => none) n none (fun u p e => by cases e) (fun l w e => by cases e) l wv hb
  refine ⟨fun e => absurd e (fun z => ?_), fun _ => c_nbegin1 (CSh_fr f1 (by decide) hS.1) h27 (fun F2 n2 f2 => ?_)⟩
  · have h1 := nI_toInt (n := l) (by omega)
    rw [z, show (-1000000004 : Int32).toInt = -1000000004 from by decide] at h1
    omega
  · have f02 := f1.tr f2
    refine mod F2 (fun r' => nI l = r') (f02.sub (by decide)) G (fun e => by rw [hsp] at e; cases e) (fun l' wv' _ hb' => ?_)
    rw [hb] at hb'
    cases hb'
    refine ⟨rfl, fun F3 f3 m3 => ?_⟩
    have f := f02.tr f3
    exact ⟨T, dr, pl, mu, lf, P, Y, kd, sz, ow, dd, rh, fm, ou, true, cTr T wv, (fun t _ => cTr T wv t), sl, sv, RS_fr f (by decide) hS, RC_fr f (by decide) hC, ⟨CNi_fr f3 (by decide) n2, m3, fun e => (by cases e), cTr_lt hgood.2, fun _ t c p e => cTr_lt hgood.2 t p e⟩, RT_fr f (by decide) hT⟩
end STCAST
