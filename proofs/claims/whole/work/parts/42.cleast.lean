/-! THE SEARCH, the class's side: the least loss; the night begins -/
def cTr (T : Nat) (w : gTr) : gTr := fun t => if t < T then w t else none
theorem CNi_cong {hc : Bool} {ca : gTr} {ho ho' : Nat → Nat → Option Nat} {F : gF} (h : ∀ t c, t < 8 → c < 30 → ho t c = ho' t c) (n : CNi hc ca ho F) : CNi hc ca ho' F :=
  ⟨n.1, n.2.1, fun e t c ht hc => by rw [n.2.2 e t c ht hc, h t c ht hc]⟩
section CLEAST
variable {D : va_G} {d : Nat} {Q : Int32 → gF → (Nat → Int64) → Prop} {Qv : gF → (Nat → Int64) → Prop} {F F' : gF} {G : Nat → Int64} {T P Y : Nat} {dr : Nat → Nat} {pl : Nat → Nat → Option Nat} {mu : Nat → Nat → Bool} {lf : Nat → Option (Nat × Nat)} {kd sz : Nat → Nat} {ow : Nat → Option Nat} {dd rh : Nat → Nat → Option Nat} {fm ou : Nat → Nat}
theorem c_nbegin1 (s : CSh T dr pl mu lf F) {wv : gTr} (h27 : ∀ u, u < T → F 27 u = oN (wv u)) (h : ∀ F', CNi true (cTr T wv) (fun t _ => cTr T wv t) F' → Fr [16, 17, 103] F F' → Qv F' G) : AMv D (d + 3) nNight_begin [.ref 16, .ref 19] F G Qv := by
  have hT := s.1
  refine eNight_begin (c_clear1 (ho := fun _ _ => none) (fun F1 n1 h1 f1 => ?_))
  have key : ∀ k i F', i + k = T → CNi true (cTr i wv) (fun t _ => cTr i wv t) F' → Fr [16, 17, 103] F F' → AWv D (d + 3) nNight_begin 11 [(0, .ref 16), (1, .ref 19), (2, .int (nI i))] [] F' G Qv := by
    intro k
    induction k with
    | zero =>
      intro i F' hi n' f'
      refine bNight_begin_11 (c_tracks (CSh_fr f' (by decide) s) ?_)
      rw [nI_leI (by omega) (by omega)]
      refine ⟨fun _ => ?_, fun e => absurd (by omega) e⟩
      rw [show i = T by omega] at n'
      exact h F' n' f'
    | succ k ih =>
      intro i F' hi n' f'
      have s' := CSh_fr f' (by decide) s
      have hix := ix1 (n := 8) (c := i) (by omega) (by omega)
      refine bNight_begin_11 (c_tracks s' ?_)
      rw [nI_leI (by omega) (by omega)]
      refine ⟨fun e => absurd e (by omega), fun _ => eCastSearch_bestAt (c_isTrack1 s' (by omega) ⟨fun e => absurd e ne10, fun _ => ⟨hix.1, hix.1, ?_⟩⟩)⟩
      rw [hix.2, f' 27 (by decide), h27 i (by omega), nI_1]
      have f2 : Fr [16, 17, 103] F (up F' 16 i (oN (wv i))) := f'.up (by decide)
      have n2 : CNi true (cTr (i + 1) wv) (fun t _ => cTr i wv t) (up F' 16 i (oN (wv i))) := by
        refine ⟨?_, fun t ht => ?_, fun e t c ht hc => ?_⟩
        · rw [up_ne _ _ _ (by decide)]; exact n'.1
        · rw [up_same, upd_i, n'.2.1 t ht]
          unfold cTr
          by_cases e : t = i
          · rw [if_pos e, if_pos (by omega), e]
          · rw [if_neg e]
            by_cases e2 : t < i
            · rw [if_pos e2, if_pos (by omega)]
            · rw [if_neg e2, if_neg (by omega)]
        · rw [up_ne _ _ _ (by decide)]; exact n'.2.2 e t c ht hc
      generalize (up F' 16 i (oN (wv i))) = F2 at f2 n2 ⊢
      refine c_holdFrom1 (f := 0) (CSh_fr f2 (by decide) s) n2 (by omega) (by omega) (wv i) (fun F3 n3 f3 => ?_)
      refine ih (i + 1) F3 (by omega) (CNi_cong (fun t c ht hc => ?_) n3) ((f2.tr f3).sub (by decide))
      unfold holdTo cTr
      by_cases e : t = i
      · rw [if_pos ⟨e, by omega, hc⟩, if_pos (by omega), e]
      · rw [if_neg (fun z => e z.1)]
        dsimp only
        by_cases e2 : t < i
        · rw [if_pos e2, if_pos (by omega)]
        · rw [if_neg e2, if_neg (by omega)]
  refine key T 0 _ (by omega) ⟨by rw [upS_same]; rfl, fun t ht => ?_, fun _ t c ht hc => ?_⟩ ((f1.tr (Fr.rf.up (by decide) : Fr [103] F1 _)).sub (by decide))
  · rw [upS_ne _ _ (by decide), n1.2.1 t ht]; rfl
  · rw [upS_ne _ _ (by decide), h1 t c ht hc]; rfl
theorem c_least1 (s : CSh T dr pl mu lf F) (ws : WSh T dr pl mu lf) (v : CCo P Y kd sz ow dd rh fm ou F) (w : WCo T P Y kd sz ow dd rh fm ou) {n : Nat} (hn : n ≤ 30000) (h : ∀ F', Fr [19, 20, 21, 22, 23, 24, 25, 26, 27, 104, 105, 106] F F' → ((seekS P (fitB dr pl sz ow dd fm ou) (fun tr => sumN (stepL mu lf P Y kd ow dd rh tr) T) T 0 (fun _ => none) n none).2.1 = true → Q (-1000000004) F' G) ∧ (∀ l wv, (seekS P (fitB dr pl sz ow dd fm ou) (fun tr => sumN (stepL mu lf P Y kd ow dd rh tr) T) T 0 (fun _ => none) n none).2.1 = false → (seekS P (fitB dr pl sz ow dd fm ou) (fun tr => sumN (stepL mu lf P Y kd ow dd rh tr) T) T 0 (fun _ => none) n none).2.2 = some (l, wv) → (∀ u, u < T → F' 27 u = oN (wv u)) → Q (nI l) F' G)) : AMi D (d + 22) nCastSearch_leastLoss [.ref 19, .int (nI n)] F G Q := by
  have hT := s.1
  have hP := v.1
  refine eCastSearch_leastLoss ?_
  have key : ∀ k i F', i + k = T → Fr [19, 20, 21, 22, 23] F F' → (∀ t, t < i → F' 19 t = nI (maskB (fun p => okB dr pl sz ow dd ou p t) P) ∧ F' 20 t = nI (maskB (meetB pl t) t) ∧ F' 21 t = nI (maskB (besideB pl t) t) ∧ F' 22 t = nI (20 + 10 * cntB (mu t) 30) ∧ (∀ p, p < P → F' 23 (t * 10 + p) = nI (covN P Y kd ow dd p t))) → AWi D (d + 22) nCastSearch_leastLoss 2 [(0, .ref 19), (1, .int (nI n)), (2, .int (nI i))] [] F' G Q := by
    intro k
    induction k with
    | zero =>
      intro i F' hi f' hh
      have s' := CSh_fr f' (by decide) s
      refine bCastSearch_leastLoss_2 (c_tracks s' ?_)
      rw [nI_leI (by omega) (by omega)]
      refine ⟨fun _ => c_readLifts1 s' ws (fun F2 f2 h24 => ?_), fun e => absurd (by omega) e⟩
      have f3 : Fr [26, 104, 105, 106] F2 (upS (upS (upS (upA F2 26 (gFl (F2 26) 0 10)) 104 1000000) 105 (nI n)) 106 0) := (((Fr.rf.up (by decide)).up (by decide)).up (by decide)).up (by decide)
      have g106 : (upS (upS (upS (upA F2 26 (gFl (F2 26) 0 10)) 104 1000000) 105 (nI n)) 106 0) 106 0 = 0 := by rw [upS_same]
      have sp : SPi T 0 (fun _ => none) n none (upS (upS (upS (upA F2 26 (gFl (F2 26) 0 10)) 104 1000000) 105 (nI n)) 106 0) := by
        refine ⟨fun u hu => absurd hu (by omega), fun p hp => ?_, ?_, hn, ?_, fun l w e => by cases e⟩
        · rw [upS_ne _ _ (by decide), upS_ne _ _ (by decide), upS_ne _ _ (by decide), upA_same, gFl, if_pos hp]; rfl
        · rw [upS_ne _ _ (by decide), upS_same]
        · rw [upS_ne _ _ (by decide), upS_ne _ _ (by decide), upS_same]; rfl
      have f03 : Fr [19, 20, 21, 22, 23, 24, 25, 26, 27, 104, 105, 106] F (upS (upS (upS (upA F2 26 (gFl (F2 26) 0 10)) 104 1000000) 105 (nI n)) 106 0) := ((f'.tr f2).tr f3).sub (by decide)
      have cs : CSe T P Y dr pl mu lf kd sz ow dd ou (upS (upS (upS (upA F2 26 (gFl (F2 26) 0 10)) 104 1000000) 105 (nI n)) 106 0) := by
        refine CSe_fr (F := F2) f3 (by decide) ⟨fun t ht => ?_, fun t ht => ?_, fun t ht => ?_, fun t ht => ?_, fun t p ht hp => ?_, fun t u ht hu => h24 t u (by omega) (by omega)⟩
        · rw [f2 19 (by decide)]; exact (hh t (by omega)).1
        · rw [f2 20 (by decide)]; exact (hh t (by omega)).2.1
        · rw [f2 21 (by decide)]; exact (hh t (by omega)).2.2.1
        · rw [f2 22 (by decide)]; exact (hh t (by omega)).2.2.2.1
        · rw [f2 23 (by decide)]; exact (hh t (by omega)).2.2.2.2 p hp
      generalize (upS (upS (upS (upA F2 26 (gFl (F2 26) 0 10)) 104 1000000) 105 (nI n)) 106 0) = F3 at f3 g106 sp f03 cs ⊢
      have fin : ∀ F4, Fr [25, 26, 27, 104, 105, 106] F3 F4 → SPi T 0 (fun _ => none) (seekS P (fitB dr pl sz ow dd fm ou) (fun tr => sumN (stepL mu lf P Y kd ow dd rh tr) T) T 0 (fun _ => none) n none).1 (seekS P (fitB dr pl sz ow dd fm ou) (fun tr => sumN (stepL mu lf P Y kd ow dd rh tr) T) T 0 (fun _ => none) n none).2.2 F4 → F4 106 0 = bI (seekS P (fitB dr pl sz ow dd fm ou) (fun tr => sumN (stepL mu lf P Y kd ow dd rh tr) T) T 0 (fun _ => none) n none).2.1 → (((F4 106 0) = 0 → Q (F4 104 0) F4 G) ∧ (¬ ((F4 106 0) = 0) → Q (-1000000004) F4 G)) := by
        intro F4 f4 sp4 g4
        have h4 := h F4 ((f03.tr f4).sub (by decide))
        rw [g4]
        refine ⟨fun e => ?_, fun e => h4.1 ((bI_n0 _).mp e)⟩
        have e := (bI_0 _).mp e
        have hsome := seekS_some (P := P) (fit := (fitB dr pl sz ow dd fm ou)) (L := (fun tr => sumN (stepL mu lf P Y kd ow dd rh tr) T)) T 0 (fun _ => none) n none e
        cases hb : (seekS P (fitB dr pl sz ow dd fm ou) (fun tr => sumN (stepL mu lf P Y kd ow dd rh tr) T) T 0 (fun _ => none) n none).2.2 with
        | none => exact absurd hb hsome
        | some q =>
          obtain ⟨l, wv⟩ := q
          have e104 := sp4.2.2.2.2.1
          rw [hb] at e104
          rw [e104]
          exact h4.2 l wv e hb (sp4.2.2.2.2.2 l wv hb)
      exact c_seek hT ws w T 0 (fun _ => none) n none (d + 21) F3 _ (by omega) (by omega) (CSh_fr f03 (by decide) s) (CCo_fr f03 (by decide) v) cs sp (fun u p e => by cases e) (fun l w e => by cases e) g106 fin
    | succ k ih =>
      intro i F' hi f' hh
      have s' := CSh_fr f' (by decide) s
      have v' := CCo_fr f' (by decide) v
      have hix := ix1 (n := 8) (c := i) (by omega) (by omega)
      refine bCastSearch_leastLoss_2 (c_tracks s' ?_)
      rw [nI_leI (by omega) (by omega)]
      refine ⟨fun e => absurd e (by omega), fun _ => c_readPeople1 s' ws v' w (by omega) (fun F2 f2 g1 g2 g3 => ?_)⟩
      have f02 : Fr [19, 20, 21, 22, 23] F F2 := (f'.tr f2).sub (by decide)
      refine c_readEarlier1 (CSh_fr f02 (by decide) s) ws (by omega) ?_
      have f3 : Fr [20, 21] F2 (up (up F2 20 i (nI (maskB (meetB pl i) i))) 21 i (nI (maskB (besideB pl i) i))) := (Fr.rf.up (by decide)).up (by decide)
      have e20 : ∀ u, (up (up F2 20 i (nI (maskB (meetB pl i) i))) 21 i (nI (maskB (besideB pl i) i))) 20 u = if u = i then nI (maskB (meetB pl i) i) else F' 20 u := fun u => by
        rw [up_ne _ _ _ (by decide), up_i, if_pos rfl, f2 20 (by decide)]
      have e21 : ∀ u, (up (up F2 20 i (nI (maskB (meetB pl i) i))) 21 i (nI (maskB (besideB pl i) i))) 21 u = if u = i then nI (maskB (besideB pl i) i) else F' 21 u := fun u => by
        rw [up_i, if_pos rfl, up_ne _ _ _ (by decide), f2 21 (by decide)]
      generalize (up (up F2 20 i (nI (maskB (meetB pl i) i))) 21 i (nI (maskB (besideB pl i) i))) = F3 at f3 e20 e21 ⊢
      have f03 : Fr [19, 20, 21, 22, 23] F F3 := (f02.tr f3).sub (by decide)
      refine c_countMusts1 (CSh_fr f03 (by decide) s) (by omega) ⟨hix.1, ?_⟩
      rw [hix.2, l10, l20, pk_mul, nI_add, nI_1]
      refine ih (i + 1) _ (by omega) (f03.up (by decide)) (fun t ht => ?_)
      rw [up_ne _ _ _ (show (19 : Nat) ≠ 22 by decide), up_ne _ _ _ (show (20 : Nat) ≠ 22 by decide), up_ne _ _ _ (show (21 : Nat) ≠ 22 by decide), up_ne _ _ _ (show (23 : Nat) ≠ 22 by decide), up_i, if_pos rfl, e20, e21, f3 19 (by decide), f3 23 (by decide), f3 22 (by decide), f2 22 (by decide), g1]
      by_cases e : t = i
      · subst e
        rw [if_pos rfl, if_pos rfl, if_pos rfl, if_pos rfl]
        exact ⟨rfl, rfl, rfl, rfl, g2⟩
      · rw [if_neg e, if_neg e, if_neg e, if_neg e]
        have ht' := hh t (by omega)
        exact ⟨ht'.1, ht'.2.1, ht'.2.2.1, ht'.2.2.2.1, fun p hp => by rw [g3 t p e (by omega)]; exact ht'.2.2.2.2 p hp⟩
  exact key T 0 F (by omega) Fr.rf (fun t ht => absurd ht (by omega))
end CLEAST
