/-! THE SEARCH, the class's side: seek -/
def CSe (T P Y : Nat) (dr : Nat → Nat) (pl : Nat → Nat → Option Nat) (mu : Nat → Nat → Bool) (lf : Nat → Option (Nat × Nat)) (kd sz : Nat → Nat) (ow : Nat → Option Nat) (dd : Nat → Nat → Option Nat) (ou : Nat → Nat) (F : gF) : Prop :=
  (∀ t, t < T → F 19 t = nI (maskB (fun p => okB dr pl sz ow dd ou p t) P)) ∧ (∀ t, t < T → F 20 t = nI (maskB (meetB pl t) t)) ∧ (∀ t, t < T → F 21 t = nI (maskB (besideB pl t) t)) ∧ (∀ t, t < T → F 22 t = nI (20 + 10 * cntB (mu t) 30)) ∧ (∀ t p, t < T → p < P → F 23 (t * 10 + p) = nI (covN P Y kd ow dd p t)) ∧ (∀ t u, t < T → u < T → F 24 (t * 8 + u) = nI (LC lf 30 t u))
def blN (b : gBst) : Nat := match b with
  | none => 1000000
  | some (l, _) => l
def SPi (T t : Nat) (tr : gTr) (n : Nat) (b : gBst) (F : gF) : Prop := (∀ u, u < t → F 25 u = oN (tr u)) ∧ (∀ p, p < 10 → F 26 p = nI (cntB (fun u => decide (tr u = some p)) t)) ∧ F 105 0 = nI n ∧ n ≤ 30000 ∧ F 104 0 = nI (blN b) ∧ (∀ l w, b = some (l, w) → ∀ u, u < T → F 27 u = oN (w u))
theorem cnt_up {tr : gTr} {t p : Nat} {o : Option Nat} : cntB (fun u => decide (up1 tr t o u = some p)) (t + 1) = cntB (fun u => decide (tr u = some p)) t + (if o = some p then 1 else 0) := by
  rw [cntB, cntB_cong t (fun u hu => by rw [up1, if_neg (by omega)]), up1, if_pos rfl]
  by_cases e : o = some p
  · rw [decide_eq_true e, if_pos rfl, if_pos e]
  · rw [decide_eq_false e, if_neg (by simp), if_neg e]
theorem cnt_any {f : Nat → Bool} : ∀ n, cntB f n = 0 ↔ anyB f n = false
  | 0 => by simp [cntB, anyB]
  | n + 1 => by
    have ih := cnt_any (f := f) n
    rw [cntB, anyB]
    cases f n <;> simp [← ih]
section CSEEK
variable {D : va_G} {d : Nat} {Q : Int32 → gF → (Nat → Int64) → Prop} {F F' : gF} {G : Nat → Int64} {T P Y : Nat} {dr : Nat → Nat} {pl : Nat → Nat → Option Nat} {mu : Nat → Nat → Bool} {lf : Nat → Option (Nat × Nat)} {kd sz : Nat → Nat} {ow : Nat → Option Nat} {dd rh : Nat → Nat → Option Nat} {fm ou : Nat → Nat}
theorem CSe_fr {ks : List Nat} (hf : Fr ks F F') (hd : ∀ k ∈ [19, 20, 21, 22, 23, 24], k ∉ ks) (s : CSe T P Y dr pl mu lf kd sz ow dd ou F) : CSe T P Y dr pl mu lf kd sz ow dd ou F' := by
  obtain ⟨h1, h2, h3, h4, h5, h6⟩ := s
  refine ⟨?_, ?_, ?_, ?_, ?_, ?_⟩
  · rw [hf 19 (hd 19 (by decide))]; exact h1
  · rw [hf 20 (hd 20 (by decide))]; exact h2
  · rw [hf 21 (hd 21 (by decide))]; exact h3
  · rw [hf 22 (hd 22 (by decide))]; exact h4
  · rw [hf 23 (hd 23 (by decide))]; exact h5
  · rw [hf 24 (hd 24 (by decide))]; exact h6
theorem SPi_fr {ks : List Nat} {t n : Nat} {tr : gTr} {b : gBst} (hf : Fr ks F F') (hd : ∀ k ∈ [25, 26, 27, 104, 105], k ∉ ks) (s : SPi T t tr n b F) : SPi T t tr n b F' := by
  obtain ⟨h1, h2, h3, h4, h5, h6⟩ := s
  refine ⟨?_, ?_, ?_, h4, ?_, ?_⟩
  · rw [hf 25 (hd 25 (by decide))]; exact h1
  · rw [hf 26 (hd 26 (by decide))]; exact h2
  · rw [hf 105 (hd 105 (by decide))]; exact h3
  · rw [hf 104 (hd 104 (by decide))]; exact h5
  · rw [hf 27 (hd 27 (by decide))]; exact h6
theorem SPi_push {t n n' : Nat} {tr : gTr} {b : gBst} {o : Option Nat} (hf : Fr [25, 26, 105] F F') (h25 : ∀ u, F' 25 u = if u = t then oN o else F 25 u) (h26 : ∀ p, F' 26 p = if o = some p then F 26 p + 1 else F 26 p) (h105 : F' 105 0 = nI n') (hn : n' ≤ 30000) (s : SPi T t tr n b F) : SPi T (t + 1) (up1 tr t o) n' b F' := by
  obtain ⟨h1, h2, h3, h4, h5, h6⟩ := s
  refine ⟨fun u hu => ?_, fun p hp => ?_, h105, hn, ?_, ?_⟩
  · rw [h25 u, up1]
    by_cases e : u = t
    · rw [if_pos e, if_pos e]
    · rw [if_neg e, if_neg e]; exact h1 u (by omega)
  · rw [h26 p, cnt_up, h2 p hp]
    by_cases e : o = some p
    · rw [if_pos e, if_pos e, nI_1]
    · rw [if_neg e, if_neg e]; rfl
  · rw [hf 104 (by decide)]; exact h5
  · rw [hf 27 (by decide)]; exact h6
theorem SPi_pop {t n : Nat} {tr : gTr} {b : gBst} {o : Option Nat} (hf : Fr [26] F F') (h26 : ∀ p, F' 26 p = if o = some p then F 26 p - 1 else F 26 p) (s : SPi T (t + 1) (up1 tr t o) n b F) : SPi T t tr n b F' := by
  obtain ⟨h1, h2, h3, h4, h5, h6⟩ := s
  refine ⟨fun u hu => ?_, fun p hp => ?_, ?_, h4, ?_, ?_⟩
  · rw [hf 25 (by decide), h1 u (by omega), up1, if_neg (by omega)]
  · rw [h26 p, h2 p hp, cnt_up]
    by_cases e : o = some p
    · rw [if_pos e, if_pos e, nI_pred]
    · rw [if_neg e, if_neg e]; rfl
  · rw [hf 105 (by decide)]; exact h3
  · rw [hf 104 (by decide)]; exact h5
  · rw [hf 27 (by decide)]; exact h6
theorem c_keep1 {Qv : gF → (Nat → Int64) → Prop} {tr : gTr} {n l : Nat} {b : gBst} (hT : T ≤ 8) (sp : SPi T T tr n b F) (hb : goodB P b) (hl : l < 1000000) (h : ∀ F', Fr [27, 104] F F' → SPi T T tr n (keepS l tr b) F' → Qv F' G) : AMv D (d + 1) nCastSearch_keepIfLess [.ref 19, .int (nI l)] F G Qv := by
  obtain ⟨h1, h2, h3, h4, h5, h6⟩ := sp
  have hbl : blN b < 2 ^ 31 := by
    unfold blN
    split
    · omega
    · rename_i l0 w
      have := (hb l0 w rfl).1
      omega
  have e0 : (0 : Int32).toNatClampNeg = 0 := by decide
  have e8 : (8 : Int32).toNatClampNeg = 8 := by decide
  have yes : keepS l tr b = some (l, tr) → Qv (upA (upS F 104 (nI l)) 27 (va_cpy ((upS F 104 (nI l)) 25) ((upS F 104 (nI l)) 27) 0 0 8)) G := by
    intro hk
    refine h _ ((Fr.rf.up (by decide)).up (by decide)) ?_
    rw [hk]
    refine ⟨fun u hu => ?_, fun p hp => ?_, ?_, h4, ?_, fun l' w e u hu => ?_⟩
    · rw [upA_ne _ _ (by decide), upS_ne _ _ (by decide)]; exact h1 u hu
    · rw [upA_ne _ _ (by decide), upS_ne _ _ (by decide)]; exact h2 p hp
    · rw [upA_ne _ _ (by decide), upS_ne _ _ (by decide)]; exact h3
    · rw [upA_ne _ _ (by decide), upS_same]; rfl
    · cases e
      rw [upA_i, if_pos rfl, va_cpy, if_pos (by omega), upS_ne _ _ (by decide), Nat.zero_add, Nat.sub_zero]
      exact h1 u hu
  refine eCastSearch_keepIfLess ?_
  rw [h5, nI_leI hbl (by omega), e0, e8]
  refine ⟨fun hle => ?_, fun hle => ⟨⟨by decide, by decide, by decide, by decide, by decide, fun _ _ => rfl⟩, yes ?_⟩⟩
  · refine h F Fr.rf ?_
    have : keepS l tr b = b := by
      unfold keepS
      cases b with
      | none => exact absurd hle (by show ¬ (1000000 ≤ l); omega)
      | some q =>
        obtain ⟨l0, w⟩ := q
        dsimp only
        rw [if_neg (by unfold blN at hle; dsimp only at hle; omega)]
    rw [this]
    exact ⟨h1, h2, h3, h4, h5, h6⟩
  · unfold keepS
    cases b with
    | none => rfl
    | some q =>
      obtain ⟨l0, w⟩ := q
      dsimp only
      rw [if_pos (by unfold blN at hle; dsimp only at hle; omega)]
theorem c_seek (hT : T ≤ 8) (ws : WSh T dr pl mu lf) (w : WCo T P Y kd sz ow dd rh fm ou) : ∀ (r t : Nat) (tr : gTr) (n : Nat) (b : gBst) (e : Nat) (F : gF) (Qv : gF → (Nat → Int64) → Prop), t + r = T → 2 * r + 5 ≤ e → CSh T dr pl mu lf F → CCo P Y kd sz ow dd rh fm ou F → CSe T P Y dr pl mu lf kd sz ow dd ou F → SPi T t tr n b F → (∀ u p, tr u = some p → p < P) → goodB P b → F 106 0 = 0 → (∀ F', Fr [25, 26, 27, 104, 105, 106] F F' → SPi T t tr (seekS P (fitB dr pl sz ow dd fm ou) (fun tr => sumN (stepL mu lf P Y kd ow dd rh tr) T) r t tr n b).1 (seekS P (fitB dr pl sz ow dd fm ou) (fun tr => sumN (stepL mu lf P Y kd ow dd rh tr) T) r t tr n b).2.2 F' → F' 106 0 = bI (seekS P (fitB dr pl sz ow dd fm ou) (fun tr => sumN (stepL mu lf P Y kd ow dd rh tr) T) r t tr n b).2.1 → Qv F' G) → AMv D e nCastSearch_seek [.ref 19, .int (nI t), .int (nI (sumN (stepL mu lf P Y kd ow dd rh tr) t))] F G Qv := by
  intro r
  induction r with
  | zero =>
    intro t tr n b e F Qv ht he s v cs sp hq hb h106 h
    obtain ⟨e', rfl⟩ : ∃ e', e = e' + 5 := ⟨e - 5, by omega⟩
    have ht : t = T := by omega
    subst ht
    refine eCastSearch_seek (c_isTrack0 s ⟨fun z => absurd rfl z, fun _ => c_keep1 hT sp hb (acc_lt hT) (fun F' f' sp' => ?_)⟩)
    exact h F' (f'.sub (by decide)) sp' (by rw [f' 106 (by decide)]; exact h106)
  | succ r IH =>
    intro t tr n b e F Qv ht he s v cs sp hq hb h106 h
    obtain ⟨e', rfl⟩ : ∃ e', e = e' + 7 := ⟨e - 7, by omega⟩
    have htT : t < T := by omega
    have hP := v.1
    have hit := ix1 (n := 8) (c := t) (by omega) (by omega)
    refine eCastSearch_seek (c_isTrack1 s htT ⟨fun _ => ⟨hit.1, c_barred1 (pl := pl) v w (by omega) (cs.2.1 t htT) (cs.2.2.1 t htT) sp.1 hq ?_⟩, fun z => absurd z ne10⟩)
    rw [hit.2, cs.1 t htT]
    have key : ∀ k p n b F', p + k = P → Fr [25, 26, 27, 104, 105, 106] F F' → SPi T t tr n b F' → goodB P b → F' 106 0 = 0 → (∀ F2, Fr [25, 26, 27, 104, 105, 106] F' F2 → SPi T t tr (loopS (fun p => (fitB dr pl sz ow dd fm ou) tr p t) (fun o n b => seekS P (fitB dr pl sz ow dd fm ou) (fun tr => sumN (stepL mu lf P Y kd ow dd rh tr) T) r (t + 1) (up1 tr t o) n b) k p n b).1 (loopS (fun p => (fitB dr pl sz ow dd fm ou) tr p t) (fun o n b => seekS P (fitB dr pl sz ow dd fm ou) (fun tr => sumN (stepL mu lf P Y kd ow dd rh tr) T) r (t + 1) (up1 tr t o) n b) k p n b).2.2 F2 → F2 106 0 = bI (loopS (fun p => (fitB dr pl sz ow dd fm ou) tr p t) (fun o n b => seekS P (fitB dr pl sz ow dd fm ou) (fun tr => sumN (stepL mu lf P Y kd ow dd rh tr) T) r (t + 1) (up1 tr t o) n b) k p n b).2.1 → Qv F2 G) → AWv D (e' + 7) nCastSearch_seek 35 [(0, .ref 19), (1, .int (nI t)), (2, .int (nI (sumN (stepL mu lf P Y kd ow dd rh tr) t))), (3, .int (nI (maskB (fun p => okB dr pl sz ow dd ou p t) P) &&& (nI (barM pl fm tr t t) ^^^ (-1)))), (4, .int (nI p))] [] F' G Qv := by
      intro k
      induction k with
      | zero =>
        intro p n b F' hp f1 sp hb h106 h
        have v' := CCo_fr f1 (by decide) v
        refine bCastSearch_seek_35 (c_people v' ?_)
        rw [nI_leI (by omega) (by omega), hit.2]
        refine ⟨fun _ => ⟨hit.1, hit.1, ?_⟩, fun z => absurd (by omega) z⟩
        have f2 : Fr [25] F' (up F' 25 t (-1000000005)) := Fr.rf.up (by decide)
        have sp2 : SPi T (t + 1) (up1 tr t none) n b (up F' 25 t (-1000000005)) := SPi_push (f2.sub (by decide)) (fun u => by rw [up_i, if_pos rfl]; rfl) (fun p => by rw [up_ne _ _ _ (by decide)]; rfl) (by rw [up_ne _ _ _ (by decide)]; exact sp.2.2.1) sp.2.2.2.1 sp
        have h22 : (up F' 25 t (-1000000005)) 22 t = nI (20 + 10 * cntB (mu t) 30) := by
          rw [up_ne _ _ _ (by decide), f1 22 (by decide)]
          exact cs.2.2.2.1 t htT
        have g106 : (up F' 25 t (-1000000005)) 106 0 = 0 := by rw [up_ne _ _ _ (by decide)]; exact h106
        generalize (up F' 25 t (-1000000005)) = F2 at f2 sp2 h22 g106 ⊢
        have f12 : Fr [25, 26, 27, 104, 105, 106] F F2 := (f1.tr f2).sub (by decide)
        have v2 := CCo_fr f12 (by decide) v
        have s2 := CSh_fr f12 (by decide) s
        have cs2 := CSe_fr f12 (by decide) cs
        have hq2 : ∀ u p, up1 tr t none u = some p → p < P := up1_lt hq (fun _ z => by cases z)
        refine c_liftLoss1 (lf := lf) (tr := up1 tr t none) v2 w hT htT cs2.2.2.2.2.2 (fun u hu => sp2.1 u (by omega)) hq2 ?_
        rw [h22, nI_1, nI_add, nI_add]
        have harg : sumN (stepL mu lf P Y kd ow dd rh tr) t + (20 + 10 * cntB (mu t) 30) + liftL lf Y ow rh (up1 tr t none) t = sumN (stepL mu lf P Y kd ow dd rh (up1 tr t none)) (t + 1) := by
          rw [acc_up, Nat.add_assoc]
          congr 1
          unfold stepL ownL
          rw [up1, if_pos rfl]
        rw [harg]
        exact IH (t + 1) (up1 tr t none) n b (e' + 6) F2 _ (by omega) (by omega) s2 v2 cs2 sp2 hq2 hb g106 (fun F3 f3 sp3 g3 => h F3 ((f2.tr f3).sub (by decide)) (SPi_pop (Fr.rf) (fun p => rfl) sp3) g3)
      | succ k ih =>
        intro p n b F' hp f1 sp hb h106 h
        have v' := CCo_fr f1 (by decide) v
        have hip := ix1 (n := 10) (c := p) (by omega) (by omega)
        have hfit : ((maskB (fun p => okB dr pl sz ow dd ou p t) P).testBit p && !(barM pl fm tr t t).testBit p) = (fitB dr pl sz ow dd fm ou) tr p t := by
          rw [maskB_bit, decide_eq_true (by omega), Bool.true_and, barM_bit w.2.2.2.2.2.2.2.2.1]
          rfl
        rw [loopS] at h
        refine bCastSearch_seek_35 (c_people v' ?_)
        rw [nI_leI (by omega) (by omega), free_bit (maskB_lt (by omega)) (by omega), hfit]
        refine ⟨fun z => absurd z (by omega), fun _ => ⟨fun z => ?_, fun z => ?_⟩⟩
        · rw [if_neg z] at h
          refine bCastSearch_seek_65 ⟨fun _ => ?_, fun y => absurd h106 y⟩
          rw [nI_1]
          exact ih (p + 1) n b F' (by omega) f1 sp hb h106 h
        · rw [if_pos z] at h
          have hn30 := sp.2.2.2.1
          have hpos : (0 : Int32) < nI n ↔ ¬ n = 0 := by
            rw [← nI_0, nI_ltI (by omega) (by omega)]
            omega
          refine eCastSearch_tryPerson ?_
          rw [sp.2.2.1, hpos, hit.2, hip.2]
          refine ⟨fun hn => ⟨hit.1, hip.1, ?_⟩, fun hn => ?_⟩
          · rw [if_neg hn] at h
            obtain ⟨m, rfl⟩ : ∃ m, n = m + 1 := ⟨n - 1, by omega⟩
            rw [nI_pred, Nat.add_sub_cancel] at *
            have g26 : (up (upS F' 105 (nI m)) 25 t (nI p)) 26 p = nI (cntB (fun u => decide (tr u = some p)) t) := by
              rw [up_ne _ _ _ (by decide), upS_ne _ _ (by decide)]
              exact sp.2.1 p (by omega)
            have hc8 := cntB_le (fun u => decide (tr u = some p)) t
            have b44 : ∀ s0 : Nat, s0 = hadN tr p t → AWv D (e' + 6) nCastSearch_tryPerson 44 [(0, .ref 19), (1, .int (nI t)), (2, .int (nI p)), (3, .int (nI (sumN (stepL mu lf P Y kd ow dd rh tr) t)))] [.int (nI s0)] (up (upS F' 105 (nI m)) 25 t (nI p)) G (fun F4 G4 => AWv D (e' + 7) nCastSearch_seek 65 [(0, .ref 19), (1, .int (nI t)), (2, .int (nI (sumN (stepL mu lf P Y kd ow dd rh tr) t))), (3, .int (nI (maskB (fun p => okB dr pl sz ow dd ou p t) P) &&& (nI (barM pl fm tr t t) ^^^ (-1)))), (4, .int (nI p))] [] F4 G4 Qv) := by
              intro s0 hs0
              have hx := ix80 (t := t) (p := p) (by omega) (by omega)
              refine bCastSearch_tryPerson_44 ⟨hip.1, hip.1, hx.1, ?_⟩
              rw [hip.2, hx.2]
              generalize hF1 : up (up (upS F' 105 (nI m)) 25 t (nI p)) 26 p ((up (upS F' 105 (nI m)) 25 t (nI p)) 26 p + 1) = F2
              have f2 : Fr [25, 26, 105] F' F2 := by
                rw [← hF1]
                exact ((Fr.rf.up (by decide)).up (by decide)).up (by decide)
              have sp2 : SPi T (t + 1) (up1 tr t (some p)) m b F2 := by
                refine SPi_push f2 (fun u => ?_) (fun q => ?_) ?_ (by omega) sp
                · rw [← hF1, up_ne _ _ _ (by decide), up_i, if_pos rfl, upS_ne _ _ (by decide)]; rfl
                · rw [← hF1, up_i, if_pos rfl, up_ne _ _ _ (by decide), upS_ne _ _ (by decide)]
                  by_cases e : q = p
                  · rw [if_pos e, if_pos (by rw [e]), e]
                  · rw [if_neg e, if_neg (fun z => e (by cases z; rfl))]
                · rw [← hF1, up_ne _ _ _ (by decide), up_ne _ _ _ (by decide), upS_same]
              have g106 : F2 106 0 = 0 := by rw [f2 106 (by decide)]; exact h106
              have f12 : Fr [25, 26, 27, 104, 105, 106] F F2 := (f1.tr f2).sub (by decide)
              have v2 := CCo_fr f12 (by decide) v
              have s2 := CSh_fr f12 (by decide) s
              have cs2 := CSe_fr f12 (by decide) cs
              have hq2 : ∀ u q, up1 tr t (some p) u = some q → q < P := up1_lt hq (fun _ z => by cases z; omega)
              refine c_liftLoss1 (lf := lf) (tr := up1 tr t (some p)) v2 w hT htT cs2.2.2.2.2.2 (fun u hu => sp2.1 u (by omega)) hq2 ?_
              rw [cs2.2.2.2.2.1 t p htT (by omega), nI_1, nI_add, nI_add, nI_add]
              have harg : sumN (stepL mu lf P Y kd ow dd rh tr) t + covN P Y kd ow dd p t + s0 + liftL lf Y ow rh (up1 tr t (some p)) t = sumN (stepL mu lf P Y kd ow dd rh (up1 tr t (some p))) (t + 1) := by
                rw [acc_up, Nat.add_assoc, Nat.add_assoc]
                congr 1
                have ho : ownL mu P Y kd ow dd (up1 tr t (some p)) t = covN P Y kd ow dd p t + hadN (up1 tr t (some p)) p t := by
                  unfold ownL
                  rw [show up1 tr t (some p) t = some p from by rw [up1, if_pos rfl]]
                unfold stepL
                rw [ho, hadN_cong (tr' := tr) (fun u hu => by rw [up1, if_neg (by omega)]), ← hs0, Nat.add_assoc]
              rw [harg]
              refine IH (t + 1) (up1 tr t (some p)) m b (e' + 5) F2 _ (by omega) (by omega) s2 v2 cs2 sp2 hq2 hb g106 (fun F3 f3 sp3 g3 => ⟨hip.1, hip.1, ?_⟩)
              have f4 : Fr [26] F3 (up F3 26 p (F3 26 p - 1)) := Fr.rf.up (by decide)
              have sp4 : SPi T t tr _ _ (up F3 26 p (F3 26 p - 1)) := SPi_pop f4 (fun q => by
                rw [up_i, if_pos rfl]
                by_cases e : q = p
                · rw [if_pos e, if_pos (by rw [e]), e]
                · rw [if_neg e, if_neg (fun z => e (by cases z; rfl))]) sp3
              have g4 : (up F3 26 p (F3 26 p - 1)) 106 0 = bI (seekS P (fitB dr pl sz ow dd fm ou) (fun tr => sumN (stepL mu lf P Y kd ow dd rh tr) T) r (t + 1) (up1 tr t (some p)) m b).2.1 := by rw [up_ne _ _ _ (by decide)]; exact g3
              have hb4 := seekS_good (fit := (fitB dr pl sz ow dd fm ou)) (L := (fun tr => sumN (stepL mu lf P Y kd ow dd rh tr) T)) (fun tr => acc_lt hT) r (t + 1) (up1 tr t (some p)) m b hq2 hb
              have f14 : Fr [25, 26, 27, 104, 105, 106] F' (up F3 26 p (F3 26 p - 1)) := ((f2.tr f3).tr f4).sub (by decide)
              generalize (up F3 26 p (F3 26 p - 1)) = F4 at f4 sp4 g4 f14 ⊢
              refine bCastSearch_seek_65 ⟨fun z0 => ?_, fun z0 => ?_⟩
              · rw [g4] at z0
                rw [(bI_0 _).mp z0, if_neg (by simp)] at h
                rw [nI_1]
                refine ih (p + 1) _ _ F4 (by omega) ((f1.tr f14).sub (by decide)) sp4 hb4 (by rw [g4]; exact z0) (fun F5 f5 sp5 g5 => h F5 ((f14.tr f5).sub (by decide)) sp5 g5)
              · rw [g4] at z0
                rw [(bI_n0 _).mp z0, if_pos rfl] at h
                exact h F4 f14 sp4 g4
            rw [g26]
            refine ⟨fun z0 => ?_, fun z0 => ?_⟩
            · rw [← nI_0, nI_leI (by omega) (by omega)] at z0
              exact b44 0 (by unfold hadN; rw [(cnt_any t).mp (by omega)]; rfl)
            · rw [← nI_0, nI_leI (by omega) (by omega)] at z0
              refine b44 4 ?_
              unfold hadN
              cases hz : anyB (fun u => decide (tr u = some p)) t with
              | true => rfl
              | false => exact absurd ((cnt_any t).mpr hz) (by omega)
          · have hn : n = 0 := by omega
            subst hn
            rw [if_pos rfl] at h
            refine bCastSearch_seek_65 ⟨fun z0 => absurd z0 (by rw [upS_same]; exact ne10), fun _ => ?_⟩
            have f2 : Fr [106] F' (upS F' 106 1) := Fr.rf.up (by decide)
            exact h _ (f2.sub (by decide)) (SPi_fr f2 (by decide) sp) (by rw [upS_same]; rfl)
    exact key P 0 n b F (by omega) Fr.rf sp hb h106 h
end CSEEK
