/-! HURT: the model's side, and the step -/
section MHURT
variable {D : va_G} {d : Nat} {Q : Int32 → gF → (Nat → Int64) → Prop} {Qv : gF → (Nat → Int64) → Prop} {F F' : gF} {G : Nat → Int64} {T P Y : Nat} {dr : Nat → Nat} {pl : Nat → Nat → Option Nat} {mu : Nat → Nat → Bool} {lf : Nat → Option (Nat × Nat)} {kd sz : Nat → Nat} {ow : Nat → Option Nat} {dd rh : Nat → Nat → Option Nat} {fm ou : Nat → Nat} {hc : Bool} {ca : Nat → Option Nat} {ho : Nat → Nat → Option Nat}
theorem m_canTake1 (s : MSh T dr pl mu lf F) (w : WSh T dr pl mu lf) (v : MCo P Y kd sz ow dd rh fm ou F) (wc : WCo T P Y kd sz ow dd rh fm ou) (n : MNi true ca ho F) (hho : ∀ t c p, ho t c = some p → p < P) {p t f : Nat} (hp : p < P) (ht : t < T) (hf : f ≤ 30) (h : Q (bI (takeP T dr pl sz ow dd ou ho t f p)) F G) : AMi D (d + 3) nModel_canTake [.ref 39, .int (nI p), .int (nI t), .int (nI f)] F G Q := by
  have hT := s.1
  have hP := v.1
  have hip := ix1 (n := 10) (c := p) (by omega) (by omega)
  have h30 := wc.2.2.2.2.2.2.2.2.2.2.1 p
  refine eModel_canTake ⟨hip.1, ?_⟩
  rw [hip.2, v.2.2.2.2.2.2.2.2.2.2 p hp, l30, nI_ltI (by omega) (by omega)]
  unfold takeP at h
  refine ⟨fun e => ?_, fun e => m_canHave1 s v w wc hp ht ⟨fun e2 => ?_, fun e2 => ?_⟩⟩
  · rw [decide_eq_true e] at h; exact h
  · rw [bI_n0] at e2
    rw [decide_eq_false e, e2] at h
    have bad : clash pl ho T t f p 30 = true → Q 0 F G := fun hz => by rw [hz] at h; exact h
    have key : ∀ k i, i + k = 30 → f ≤ i → clash pl ho T t f p i = false → AWi D (d + 3) nModel_canTake 25 [(0, .ref 39), (1, .int (nI p)), (2, .int (nI t)), (3, .int (nI f)), (4, .int (nI i))] [] F G Q := by
      intro k
      induction k with
      | zero =>
        intro i hi hfi hcl
        refine bModel_canTake_25 ⟨fun _ => ?_, fun e => absurd ((le30 (by omega)).mpr (by omega)) e⟩
        rw [show i = 30 by omega] at hcl
        rw [hcl] at h
        exact h
      | succ k ih =>
        intro i hi hfi hcl
        have nxt : (inB pl t i && anyB (fun u => inB pl u i && decide (ho u i = some p)) T) = false → AWi D (d + 3) nModel_canTake 25 [(0, .ref 39), (1, .int (nI p)), (2, .int (nI t)), (3, .int (nI f)), (4, .int (nI i + 1))] [] F G Q := by
          intro hz
          rw [nI_1]
          refine ih (i + 1) (by omega) (by omega) (anyB_s hcl ?_)
          rw [hz, Bool.and_false]
        have inner : ∀ k2 j, j + k2 = T → anyB (fun u => inB pl u i && decide (ho u i = some p)) j = false → AWi D (d + 3) nModel_canTake 35 [(0, .ref 39), (1, .int (nI p)), (2, .int (nI t)), (3, .int (nI f)), (4, .int (nI i)), (5, .int (nI j))] [] F G Q := by
          intro k2
          induction k2 with
          | zero =>
            intro j hj ha
            refine bModel_canTake_35 ?_
            rw [s.2.1, nI_leI (by omega) (by omega)]
            refine ⟨fun _ => nxt ?_, fun e => absurd (by omega) e⟩
            rw [show T = j by omega, ha, Bool.and_false]
          | succ k2 ih2 =>
            intro j hj ha
            refine bModel_canTake_35 ?_
            rw [s.2.1, nI_leI (by omega) (by omega)]
            refine ⟨fun e => absurd e (by omega), fun _ => m_is1 s w ht (by omega) ⟨fun e3 => nxt (by rw [(bI_0 _).mp e3]; rfl), fun e3 => m_is1 s w (by omega) (by omega) ⟨fun e4 => ?_, fun e4 => ?_⟩⟩⟩
            · rw [nI_1]
              exact ih2 (j + 1) (by omega) (anyB_s ha (by rw [(bI_0 _).mp e4]; rfl))
            · obtain ⟨g1, g2⟩ := jx30 (t := j) (c := i) (by omega) (by omega)
              refine ⟨g1, ?_⟩
              rw [g2, n.2.2 rfl j i (by omega) (by omega), oM_eq (by omega) (fun k hk => by have := hho j i k hk; omega), nI_1]
              refine ⟨fun e5 => ih2 (j + 1) (by omega) (anyB_s ha (by rw [decide_eq_false e5, Bool.and_false])), fun e5 => bad ?_⟩
              refine anyB_hit (c := i) (by omega) ?_
              rw [decide_eq_true hfi, (bI_n0 _).mp e3, anyB_hit (p := fun u => inB pl u i && decide (ho u i = some p)) (c := j) (by omega) (by rw [(bI_n0 _).mp e4, decide_eq_true e5]; rfl)]
              rfl
        refine bModel_canTake_25 ⟨fun e => absurd ((le30 (by omega)).mp e) (by omega), fun _ => ?_⟩
        exact inner T 0 (by omega) rfl
    refine key (30 - f) f (by omega) (Nat.le_refl f) ?_
    cases hx : clash pl ho T t f p f with
    | false => rfl
    | true =>
      obtain ⟨c, hcf, e3⟩ := (anyB_iff _ _).mp hx
      rw [decide_eq_false (by omega)] at e3
      cases e3
  · rw [bI_0] at e2
    rw [e2] at h
    simp at h
    exact h
theorem m_takesOver1 (s : MSh T dr pl mu lf F) (w : WSh T dr pl mu lf) (v : MCo P Y kd sz ow dd rh fm ou F) (wc : WCo T P Y kd sz ow dd rh fm ou) (n : MNi true ca ho F) (hho : ∀ t c p, ho t c = some p → p < P) {t f : Nat} (ht : t < T) (hf : f < 30) (h : ∀ F', MNi true ca (takeF T P dr pl sz ow dd ou ho t f).2 F' → Fr [52] F F' → Q (bI (takeF T P dr pl sz ow dd ou ho t f).1) F' G) : AMi D (d + 4) nModel_takesOver [.ref 39, .int (nI t), .int (nI f)] F G Q := by
  have hT := s.1
  have hP := v.1
  have hho1 : ∀ t' c p, holdTo ho t f 30 none t' c = some p → p < P := by
    intro t' c p hp
    rw [holdTo] at hp
    split at hp
    · cases hp
    · exact hho t' c p hp
  refine eModel_takesOver ?_
  unfold takeF at h
  -- the end: p holds from f on
  have last : ∀ p, p < P → ∀ k i (F1 : gF), i + k = 30 → f ≤ i → MNi true ca (holdTo (holdTo ho t f 30 none) t f i (some p)) F1 → (∀ F2, MNi true ca (holdTo (holdTo ho t f 30 none) t f 30 (some p)) F2 → Fr [52] F1 F2 → Q 1 F2 G) → AWi D (d + 4) nModel_takesOver 60 [(0, .ref 39), (1, .int (nI t)), (2, .int (nI f)), (3, .int (nI p)), (4, .int (nI i))] [] F1 G Q := by
    intro p hp k
    induction k with
    | zero =>
      intro i F1 hi hfi n1 hq
      refine bModel_takesOver_60 ⟨fun _ => ?_, fun e => absurd ((le30 (by omega)).mpr (by omega)) e⟩
      rw [show i = 30 by omega] at n1
      exact hq F1 n1 Fr.rf
    | succ k ih =>
      intro i F1 hi hfi n1 hq
      obtain ⟨e1, e2⟩ := jx30 (t := t) (c := i) (by omega) (by omega)
      refine bModel_takesOver_60 ⟨fun e => absurd ((le30 (by omega)).mp e) (by omega), fun _ => ⟨e1, ?_⟩⟩
      rw [e2, nI_1]
      exact ih (i + 1) _ (by omega) (by omega) (MNi_hold n1 (by omega) (by omega) hfi) (fun F2 n2 f2 => hq F2 n2 (((Fr.rf (ks := [52]).up (by decide)).tr f2).sub (by decide)))
  have first : ∀ k i (F1 : gF), i + k = 30 → f ≤ i → MNi true ca (holdTo ho t f i none) F1 → Fr [52] F F1 → AWi D (d + 4) nModel_takesOver 2 [(0, .ref 39), (1, .int (nI t)), (2, .int (nI f)), (3, .int (nI i))] [] F1 G Q := by
    intro k
    induction k with
    | zero =>
      intro i F1 hi hfi n1 f1
      rw [show i = 30 by omega] at n1
      have s1 := MSh_fr f1 (by decide) s
      have v1 := MCo_fr f1 (by decide) v
      refine bModel_takesOver_2 ⟨fun _ => m_isInFrom1 s1 w ht (by omega) ⟨fun e => ?_, fun e => ?_⟩, fun e => absurd ((le30 (by omega)).mpr (by omega)) e⟩
      · rw [bI_n0] at e
        rw [if_pos e] at h
        have key : ∀ k i, i + k = P → firstB (takeP T dr pl sz ow dd ou (holdTo ho t f 30 none) t f) i = none → AWi D (d + 4) nModel_takesOver 39 [(0, .ref 39), (1, .int (nI t)), (2, .int (nI f)), (3, .int (nI i))] [] F1 G Q := by
          intro k
          induction k with
          | zero =>
            intro i hi hfi
            refine bModel_takesOver_39 ?_
            rw [v1.2.1, nI_leI (by omega) (by omega)]
            refine ⟨fun _ => ?_, fun e => absurd (by omega) e⟩
            rw [show P = i by omega, hfi] at h
            exact h F1 n1 f1
          | succ k ih =>
            intro i hi hfi
            refine bModel_takesOver_39 ?_
            rw [v1.2.1, nI_leI (by omega) (by omega)]
            refine ⟨fun e => absurd e (by omega), fun _ => m_canTake1 s1 w v1 wc n1 hho1 (by omega) ht (by omega) ⟨fun e2 => ?_, fun e2 => ?_⟩⟩
            · rw [nI_1]
              refine ih (i + 1) (by omega) ?_
              rw [firstB, hfi]
              dsimp only
              rw [if_neg (by rw [(bI_0 _).mp e2]; decide)]
            · have hfst : firstB (takeP T dr pl sz ow dd ou (holdTo ho t f 30 none) t f) P = some i := firstB_le (by omega) ((bI_n0 _).mp e2) (firstB_none.mp hfi)
              rw [hfst] at h
              exact last i (by omega) (30 - f) f F1 (by omega) (Nat.le_refl f) (by rw [holdTo_0]; exact n1) (fun F2 n2 f2 => h F2 n2 ((f1.tr f2).sub (by decide)))
        exact key P 0 (by omega) rfl
      · rw [bI_0] at e
        rw [if_neg (by rw [e]; decide)] at h
        exact h F1 n1 f1
    | succ k ih =>
      intro i F1 hi hfi n1 f1
      obtain ⟨e1, e2⟩ := jx30 (t := t) (c := i) (by omega) (by omega)
      refine bModel_takesOver_2 ⟨fun e => absurd ((le30 (by omega)).mp e) (by omega), fun _ => ⟨e1, ?_⟩⟩
      rw [e2, nI_1]
      exact ih (i + 1) _ (by omega) (by omega) (MNi_hold n1 (by omega) (by omega) hfi) (f1.up (by decide))
  exact first (30 - f) f F (by omega) (Nat.le_refl f) (by rw [holdTo_0]; exact n) Fr.rf
theorem m_hurt40 (s : MSh T dr pl mu lf F) (w : WSh T dr pl mu lf) (v : MCo P Y kd sz ow dd rh fm ou F) (wc : WCo T P Y kd sz ow dd rh fm ou) (n : MNi true ca ho F) {x m : Nat} (hf : Nat → Nat × (Nat → Nat → Option Nat)) (hS : hurtS T P dr pl sz ow dd ou x m ho hf) (hho : ∀ i t c p, (hf i).2 t c = some p → p < P) (hx : x < P) (hm : m ≤ 30) (h : ∀ F', MNi true ca (hf T).2 F' → Fr [52] F F' → Q (nI (hf T).1) F' G) : AWi D (d + 5) nModel_hurt 40 [(0, .ref 39), (1, .int (nI x)), (2, .int (nI m)), (3, .int 0), (4, .int 0)] [] F G Q := by
  have hT := s.1
  have hP := v.1
  obtain ⟨q0, q1, q2, q3⟩ := hS
  have key : ∀ k i (F1 : gF), i + k = T → MNi true ca (hf i).2 F1 → Fr [52] F F1 → AWi D (d + 5) nModel_hurt 40 [(0, .ref 39), (1, .int (nI x)), (2, .int (nI m)), (3, .int (nI (hf i).1)), (4, .int (nI i))] [] F1 G Q := by
    intro k
    induction k with
    | zero =>
      intro i F1 hi n1 f1
      have s1 := MSh_fr f1 (by decide) s
      refine bModel_hurt_40 ?_
      rw [s1.2.1, nI_leI (by omega) (by omega)]
      refine ⟨fun _ => ?_, fun e => absurd (by omega) e⟩
      rw [show i = T by omega] at n1 ⊢
      exact h F1 n1 f1
    | succ k ih =>
      intro i F1 hi n1 f1
      have s1 := MSh_fr f1 (by decide) s
      have v1 := MCo_fr f1 (by decide) v
      have hn := fun F2 => ih (i + 1) F2 (by omega)
      have walk : ∀ k2 j, j + k2 = 30 → m ≤ j → heldF (hf i).2 i x m j = none → AWi D (d + 5) nModel_hurt 52 [(0, .ref 39), (1, .int (nI x)), (2, .int (nI m)), (3, .int (nI (hf i).1)), (4, .int (nI i)), (5, .int (nI j))] [] F1 G Q := by
        intro k2
        induction k2 with
        | zero =>
          intro j hj hmj hh
          rw [show j = 30 by omega] at hh ⊢
          refine bModel_hurt_52 ⟨fun _ => bModel_hurt_82 ⟨fun _ => ?_, fun e => absurd (by decide) e⟩, fun e => absurd (by decide) e⟩
          rw [q1 i hh] at hn
          rw [nI_1]
          exact hn F1 n1 f1
        | succ k2 ih2 =>
          intro j hj hmj hh
          obtain ⟨g1, g2⟩ := jx30 (t := i) (c := j) (by omega) (by omega)
          refine bModel_hurt_52 ⟨fun e => absurd ((le30 (by omega)).mp e) (by omega), fun _ => ⟨g1, ?_⟩⟩
          rw [g2, n1.2.2 rfl i j (by omega) (by omega), oM_eq (by omega) (fun k hk => by have := hho i i j k hk; omega)]
          refine ⟨fun e => ?_, fun e => ?_⟩
          · have hh2 : heldF (hf i).2 i x m 30 = some j := firstB_le (by omega) (by rw [decide_eq_true e, decide_eq_true hmj]; rfl) (firstB_none.mp hh)
            rw [q2 i j hh2] at hn
            dsimp only at hn
            refine bModel_hurt_82 ⟨fun e => absurd ((le30 (by omega)).mp e) (by omega), fun _ => ?_⟩
            refine m_takesOver1 (t := i) (f := j) (ho := (hf i).2) s1 w v1 wc n1 (hho i) (by omega) (by omega) (fun F2 n2 f2 => ?_)
            have hfin := hn F2 n2 ((f1.tr f2).sub (by decide))
            rw [nI_1]
            refine ⟨fun e3 => ?_, fun e3 => ?_⟩
            · rw [bI_0] at e3
              rw [if_neg (by rw [e3]; decide), ← nI_add] at hfin
              exact hfin
            · rw [bI_n0] at e3
              rw [if_pos e3, ← nI_add] at hfin
              exact hfin
          · rw [nI_1]
            refine ih2 (j + 1) (by omega) (by omega) ?_
            unfold heldF at hh ⊢
            rw [firstB, hh]
            dsimp only
            rw [decide_eq_false e]
            simp
      refine bModel_hurt_40 ?_
      rw [s1.2.1, nI_leI (by omega) (by omega)]
      refine ⟨fun e => absurd e (by omega), fun _ => walk (30 - m) m (by omega) (Nat.le_refl m) (firstB_none.mpr (fun k hk => ?_))⟩
      rw [decide_eq_false (by omega)]
      rfl
  have hk := key T 0 F (by omega) (by rw [q0]; exact n) Fr.rf
  rw [q0] at hk
  exact hk
theorem st_hurt {a b : Int32} : Step D (d + 7) nDesk_hurt nModel_hurt [.int a, .int b] := by
  intro F G ⟨T, dr, pl, mu, lf, P, Y, kd, sz, ow, dd, rh, fm, ou, hc, ca, ho, sl, sv, hS, hC, hN, hT⟩
  have same : RI F := ⟨T, dr, pl, mu, lf, P, Y, kd, sz, ow, dd, rh, fm, ou, hc, ca, ho, sl, sv, hS, hC, hN, hT⟩
  have hP := hC.1.1
  refine eDesk_hurt (c_isPerson hC.1 (fun x hx ea => ⟨fun e => absurd e ne10, fun _ => c_isCue (fun m hm eb => ⟨fun _ => c_hasCast1 hN.1 ⟨fun e => ?_, fun e => ?_⟩, fun e => absurd e ne10⟩) (fun z => ⟨fun e => absurd rfl e, fun _ => ?_⟩)⟩) (fun z => ⟨fun _ => eModel_hurt (m_isPerson0 hC.2.1 z ⟨fun _ => ⟨rfl, same⟩, fun e => absurd rfl e⟩), fun e => absurd rfl e⟩))
  · subst ea; subst eb
    have he : hc = true := (bI_n0 _).mp e
    subst he
    have hi := ix1 (n := 10) (c := x) (by omega) (by omega)
    have wc' : WCo T P Y kd sz ow dd rh fm (up1 ou x m) := by
      obtain ⟨w1, w2, w3, w4, w5, w6, w7, w8, w9, w10, w11, w12⟩ := hC.2.2
      refine ⟨w1, w2, w3, w4, w5, w6, w7, w8, w9, w10, fun q => ?_, fun q hq => ?_⟩
      · rw [up1]
        split
        · omega
        · exact w11 q
      · rw [up1, if_neg (by omega)]
        exact w12 q hq
    refine c_setOut1 hC.1 hx (fun F1 v1 f1 => ?_)
    have hSS := hurtF_S (T := T) (P := P) (dr := dr) (pl := pl) (sz := sz) (ow := ow) (dd := dd) (ou := up1 ou x m) (ho := ho) (x := x) (m := m)
    have hhh := fun i => hho_hurt (T := T) (dr := dr) (pl := pl) (sz := sz) (ow := ow) (dd := dd) (ou := up1 ou x m) (x := x) (m := m) (n := 30) hP (fun t c p => hN.2.2.2.2 rfl t c p) i
    generalize hurtF T P dr pl sz ow dd (up1 ou x m) x m 30 ho = hf at hSS hhh
    refine c_replace1 (CSh_fr f1 (by decide) hS.1) hS.2.2 v1 wc' (CNi_fr f1 (by decide) hN.1) hf hSS hhh hx (by omega) (fun F2 n2 f2 => ?_)
    have f12 := f1.tr f2
    have ms := MSh_fr f12 (by decide) hS.2.1
    have mc := MCo_fr f12 (by decide) hC.2.1
    have mn := MNi_fr f12 (by decide) hN.2.1
    refine eModel_hurt (m_isPerson1 mc hx ⟨fun e => absurd e ne10, fun _ => m_isCue1 hm ⟨fun _ => ⟨fun _ => ⟨hi.1, ?_⟩, fun z => absurd (by rw [mn.1] at z; exact z) ne10⟩, fun e => absurd e ne10⟩⟩)
    rw [hi.2]
    have f3 : Fr [50] F2 (up F2 50 x (nI m)) := Fr.rf.up (by decide)
    have mc' : MCo P Y kd sz ow dd rh fm (up1 ou x m) (up F2 50 x (nI m)) := by
      obtain ⟨m1, m2, m3, m4, m5, m6, m7, m8, m9, m10, m11⟩ := mc
      refine ⟨m1, m2, m3, m4, m5, m6, m7, m8, m9, m10, fun q hq => ?_⟩
      rw [up_same, upd_i, up1]
      split
      · rfl
      · exact m11 q hq
    refine m_hurt40 (MSh_fr f3 (by decide) ms) hS.2.2 mc' wc' (MNi_fr f3 (by decide) mn) hf hSS hhh hx (by omega) (fun F4 n4 f4 => ⟨rfl, ?_⟩)
    have f34 := f3.tr f4
    have f := f12.tr f34
    exact ⟨T, dr, pl, mu, lf, P, Y, kd, sz, ow, dd, rh, fm, up1 ou x m, true, ca, (hf T).2, sl, sv, RS_fr f (by decide) hS, ⟨CCo_fr f34 (by decide) (CCo_fr f2 (by decide) v1), MCo_fr f4 (by decide) mc', wc'⟩, ⟨CNi_fr f34 (by decide) n2, n4, fun e => (by cases e), hN.2.2.2.1, fun _ t c p hp => hhh T t c p hp⟩, RT_fr f (by decide) hT⟩
  · subst ea; subst eb
    exact eModel_hurt (m_isPerson1 hC.2.1 hx ⟨fun e => absurd e ne10, fun _ => m_isCue1 hm ⟨fun _ => ⟨fun z => absurd (by rw [hN.2.1.1]; exact e) z, fun _ => ⟨rfl, same⟩⟩, fun e => absurd e ne10⟩⟩)
  · subst ea
    exact eModel_hurt (m_isPerson1 hC.2.1 hx ⟨fun e => absurd e ne10, fun _ => m_isCue0 z ⟨fun e => absurd rfl e, fun _ => ⟨rfl, same⟩⟩⟩)
end MHURT
