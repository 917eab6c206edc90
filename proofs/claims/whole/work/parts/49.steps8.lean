/-! PLANS: plan and putIn -/
theorem digit {x0 xp h h' dig b E M : Nat} (hE : 0 < E) (hM : HR = E * 9 * M) (hx0 : x0 % (E * 9) = xp % (E * 9)) (hxp : xp = h * HR + b * E + (h' * HR + dig)) (hd : dig < E) (hb : b ≤ 8) : x0 % HR / E % 9 = b := by
  rw [← Nat.mod_mul_right_div_self, hM, Nat.mod_mul_right_mod, hx0, hxp, hM]
  have e : h * (E * 9 * M) + b * E + (h' * (E * 9 * M) + dig) = E * 9 * (M * (h + h')) + (b * E + dig) := by
    rw [Nat.mul_comm h, Nat.mul_comm h', Nat.mul_add M, Nat.mul_add (E * 9), Nat.mul_assoc (E * 9), Nat.mul_assoc (E * 9)]
    omega
  have hbE : b * E ≤ 8 * E := Nat.mul_le_mul_right _ hb
  rw [e, Nat.mul_add_mod, Nat.mod_eq_of_lt (by omega), Nat.mul_comm b E, Nat.mul_add_div hE, Nat.div_eq_of_lt hd, Nat.add_zero]
theorem carry {x0 xq x' h b E M : Nat} (hM : HR = E * 9 * M) (hx0 : x0 % (E * 9) = xq % (E * 9)) (hxq : xq = h * HR + b * E + x') : x0 % E = x' % E := by
  have e1 : x0 % E = xq % E := by
    rw [← Nat.mod_mul_right_mod x0 E 9, hx0, Nat.mod_mul_right_mod]
  rw [e1, hxq, hM, show h * (E * 9 * M) + b * E + x' = E * (9 * M * h + b) + x' by
    rw [Nat.mul_add, Nat.mul_comm h, Nat.mul_comm b, Nat.mul_assoc E, Nat.mul_assoc E]
  , Nat.mul_add_mod]
def gdM (T P : Nat) (st : Nat → Nat → Bool) (hh : Nat → Nat) (k : Nat) (c : gVec) (t : Nat) : Bool := st (P - (k + 1)) t && (match mV T P st hh k (decV c t) with
  | none => false
  | some v => decide (mV T P st hh (k + 1) c = some (v + hh t)))
theorem chM_gd {T P : Nat} {st : Nat → Nat → Bool} {hh : Nat → Nat} {k : Nat} {c : gVec} : chM T P st hh k c = firstB (gdM T P st hh k c) T := rfl
theorem gd_st {T P : Nat} {st : Nat → Nat → Bool} {hh : Nat → Nat} {k : Nat} {c : gVec} {t : Nat} (h : st (P - (k + 1)) t = false) : gdM T P st hh k c t = false := by unfold gdM; rw [h, Bool.false_and]
theorem gd_none {T P : Nat} {st : Nat → Nat → Bool} {hh : Nat → Nat} {k : Nat} {c : gVec} {t : Nat} (h : mV T P st hh k (decV c t) = none) : gdM T P st hh k c t = false := by unfold gdM; rw [h]; exact Bool.and_false _
theorem gd_some {T P : Nat} {st : Nat → Nat → Bool} {hh : Nat → Nat} {k : Nat} {c : gVec} {t z : Nat} (hs : st (P - (k + 1)) t = true) (h : mV T P st hh k (decV c t) = some z) : gdM T P st hh k c t = decide (mV T P st hh (k + 1) c = some (z + hh t)) := by unfold gdM; rw [hs, h, Bool.true_and]
section PLANS
variable {D : va_G} {d : Nat} {Q : Int32 → gF → (Nat → Int64) → Prop} {Qv : gF → (Nat → Int64) → Prop} {F F' : gF} {G : Nat → Int64} {T P Y : Nat} {dr : Nat → Nat} {pl : Nat → Nat → Option Nat} {mu : Nat → Nat → Bool} {lf : Nat → Option (Nat × Nat)} {kd sz : Nat → Nat} {ow : Nat → Option Nat} {dd rh : Nat → Nat → Option Nat} {fm ou : Nat → Nat}
theorem fst_lt : fstN T P Y kd dd < wt r3 T := enc_lt r3_pos nu_r3 T
theorem m_plan1 (s : MSh T dr pl mu lf F) (ws : WSh T dr pl mu lf) (v : MCo P Y kd sz ow dd rh fm ou F) (w : WCo T P Y kd sz ow dd rh fm ou) (h1 : ∀ F' y, Fr [57, 58] F F' → mV T P (stB Y kd dd) (hhN pl) P (NVc T P Y kd dd) = some y → Q (nI y) F' G) (h0 : ∀ F', Fr [57, 58] F F' → mV T P (stB Y kd dd) (hhN pl) P (NVc T P Y kd dd) = none → Q (-1000000002) F' G) : AMi D (d + 5) nModel_plan [.ref 39] F G Q := by
  have hP := v.1
  have hT := s.1
  have h6 := wt3_le (t := T) hT
  have hf := fst_lt (T := T) (P := P) (Y := Y) (kd := kd) (dd := dd)
  refine eModel_plan (m_findPlan1 s ws v w (fun F' f1 mp mt => ?_))
  have hix := ix1 (n := 72171) (c := fstN T P Y kd dd) (by omega) (by omega)
  have e := mt 0 (fstN T P Y kd dd) (Nat.le_refl 0) (by omega) hf
  rw [Nat.mul_zero, Nat.zero_add, Nat.sub_zero, fst_dg] at e
  rw [hix.2, e, oM_pos (fun k hk => by have := mV_lim hP hk; omega)]
  cases hm : mV T P (stB Y kd dd) (hhN pl) P (NVc T P Y kd dd) with
  | none => exact ⟨hix.1, fun e => absurd rfl e, fun _ => h0 F' f1 hm⟩
  | some y => exact ⟨hix.1, fun _ => ⟨hix.1, h1 F' y f1 hm⟩, fun e => absurd (fun z => by cases z) e⟩
/-- whom the walk takes -/
theorem m_walk46 (s : MSh T dr pl mu lf F) (ws : WSh T dr pl mu lf) (v : MCo P Y kd sz ow dd rh fm ou F) (w : WCo T P Y kd sz ow dd rh fm ou) (mp : MPw F) (mt : MTb T P (stB Y kd dd) (hhN pl) 0 F) {x1 : Int32} {q y : Nat} (hq : q < P) (hy : y < wt r3 T) (h : ∀ x5, AWi D (d + 4) nModel_putIn 143 [(0, .ref 39), (1, .int x1), (2, .int (nI y)), (3, .int (oN (chM T P (stB Y kd dd) (hhN pl) (P - (q + 1)) (dg r3 y)))), (4, .int (nI q)), (5, .int x5)] [] F G Q) : AWi D (d + 4) nModel_putIn 46 [(0, .ref 39), (1, .int x1), (2, .int (nI y)), (3, .int (-1000000005)), (4, .int (nI q)), (5, .int 0)] [] F G Q := by
  have hP := v.1
  have hT := s.1
  have h6 := wt3_le (t := T) hT
  obtain ⟨k, hk⟩ : ∃ k, k = P - (q + 1) := ⟨_, rfl⟩
  rw [← hk] at h
  simp only [chM_gd] at h
  have hj := jx57 (q := q) (x := y) (by omega) (by omega)
  have key : ∀ n i, i + n = T → AWi D (d + 4) nModel_putIn 46 [(0, .ref 39), (1, .int x1), (2, .int (nI y)), (3, .int (oN (firstB (gdM T P (stB Y kd dd) (hhN pl) k (dg r3 y)) i))), (4, .int (nI q)), (5, .int (nI i))] [] F G Q := by
    intro n
    induction n with
    | zero =>
      intro i hi
      refine bModel_putIn_46 ⟨fun _ => ?_, fun e => absurd (by rw [s.2.1, nI_leI (by omega) (by omega)]; omega) e⟩
      rw [show i = T by omega]
      exact h _
    | succ n ih =>
      intro i hi
      have hn := ih (i + 1) (by omega)
      refine bModel_putIn_46 ⟨fun e => absurd e (by rw [s.2.1, nI_leI (by omega) (by omega)]; omega), fun _ => ?_⟩
      cases hc : firstB (gdM T P (stB Y kd dd) (hhN pl) k (dg r3 y)) i with
      | some j =>
        have hjl := (firstB_lt hc).1
        rw [firstB_up hc T (by omega)] at h
        exact ⟨fun _ => h _, fun e => absurd e (nI_neN (by omega))⟩
      | none =>
        rw [firstB, hc] at hn
        dsimp only at hn
        rw [← nI_1 i] at hn
        have hq1 : P - (k + 1) = q := by omega
        refine ⟨fun e => absurd rfl e, fun _ => m_mayPut1 v w hq (by omega) ⟨fun e => ?_, fun e => m_behind1 mp (by omega) (by omega) (fun x' hx' hle => ?_)⟩⟩
        · rw [gd_st (by rw [hq1]; exact (bI_0 _).mp e), if_neg (by decide)] at hn
          exact bModel_putIn_97 ⟨fun _ => hn, fun e => absurd (by decide) e⟩
        · have hj2 := jx57 (q := q + 1) (x := x') (by omega) (by omega)
          rw [nI_1 q, hj2.2, mt (q + 1) x' (by omega) (by omega) (by omega), hx', ← hk]
          refine ⟨hj2.1, ?_⟩
          cases hm : mV T P (stB Y kd dd) (hhN pl) k (decV (dg r3 y) i) with
          | none =>
            rw [gd_none hm, if_neg (by decide)] at hn
            exact bModel_putIn_97 ⟨fun _ => hn, fun e => absurd (by decide) e⟩
          | some z =>
            have hz := mV_lim (by omega) hm
            have hh8 := hhN_le (pl := pl) i
            have hgd := gd_some (T := T) (hh := hhN pl) (by rw [hq1]; exact (bI_n0 _).mp e) hm
            refine bModel_putIn_97 ⟨fun e => absurd e (nI_pos (by omega)), fun _ => m_hours1 s ws (by omega) ⟨hj.1, ?_⟩⟩
            rw [hj.2, mt q y (by omega) (by omega) hy, show P - q = k + 1 by omega, oM_some, nI_add]
            have hiff : nI (z + hhN pl i) = oM (mV T P (stB Y kd dd) (hhN pl) (k + 1) (dg r3 y)) ↔ mV T P (stB Y kd dd) (hhN pl) (k + 1) (dg r3 y) = some (z + hhN pl i) := by
              rw [← oM_eq (by omega) (fun x hx => by have := mV_lim (by omega) hx; omega)]
              exact eq_comm
            rw [hiff]
            refine ⟨fun e => ?_, fun e => ?_⟩
            · rw [show gdM T P (stB Y kd dd) (hhN pl) k (dg r3 y) i = false from hgd.trans (decide_eq_false e), if_neg (by decide)] at hn; exact hn
            · rw [show gdM T P (stB Y kd dd) (hhN pl) k (dg r3 y) i = true from hgd.trans (decide_eq_true e), if_pos rfl] at hn; exact hn
  exact key T 0 (by omega)
theorem m_walk34 (s : MSh T dr pl mu lf F) (ws : WSh T dr pl mu lf) (v : MCo P Y kd sz ow dd rh fm ou F) (w : WCo T P Y kd sz ow dd rh fm ou) (mp : MPw F) (mt : MTb T P (stB Y kd dd) (hhN pl) 0 F) {p x0 : Nat} (hp : p < P) (h : Q (oN (if x0 % HR / 9 ^ (9 - p) % 9 = 8 then none else some (x0 % HR / 9 ^ (9 - p) % 9))) F G) : ∀ n q y xq x3, q + n = p → y < wt r3 T → bV T P (stB Y kd dd) (hhN pl) (P - q) (dg r3 y) = some xq → x0 % 9 ^ (10 - q) = xq % 9 ^ (10 - q) → AWi D (d + 4) nModel_putIn 34 [(0, .ref 39), (1, .int (nI p)), (2, .int (nI y)), (3, .int x3), (4, .int (nI q))] [] F G Q := by
  have hP := v.1
  have hT := s.1
  have h6 := wt3_le (t := T) hT
  intro n
  induction n with
  | zero =>
    intro q y xq x3 hn hy hb hd
    have hqp : q = p := by omega
    subst hqp
    refine bModel_putIn_34 ⟨fun e => absurd e (by rw [nI_ltI (by omega) (by omega)]; omega), fun _ => m_walk46 s ws v w mp mt hp hy (fun x5 => ?_)⟩
    obtain ⟨k, hk⟩ : ∃ k, k = P - (q + 1) := ⟨_, rfl⟩
    rw [show P - q = k + 1 by omega] at hb
    rw [← hk]
    obtain ⟨x', hb', hx'⟩ := choice hT hP hhN_pos (by omega) hb
    obtain ⟨hrs, dig, _, hx2, hdig⟩ := (bm hT hP k _ (by omega)).2 x' hb'
    rw [EW_w (p := q) (by omega) hP] at hx' hdig
    have hE : 0 < 9 ^ (9 - q) := Nat.pow_pos (by omega)
    have e10 : 9 ^ (10 - q) = 9 ^ (9 - q) * 9 := by rw [show 10 - q = 9 - q + 1 by omega, Nat.pow_succ]
    rw [e10] at hd
    have hM : HR = 9 ^ (9 - q) * 9 * 9 ^ q := by rw [HR_pow, ← Nat.pow_succ, ← Nat.pow_add, show (9 - q).succ + q = 10 by omega]
    rw [hx2] at hx'
    generalize hc : chM T P (stB Y kd dd) (hhN pl) k (dg r3 y) = ch at hx' hb' ⊢
    have h8 : dgO ch ≤ 8 := by
      cases ch with
      | none => exact Nat.le_refl 8
      | some t => have := (choice_pos hhN_pos hc).1; show t ≤ 8; omega
    have dgt := digit hE hM hd hx' hdig h8
    rw [dgt] at h
    cases ch with
    | none => exact bModel_putIn_143 ⟨fun e => absurd rfl e, fun _ => bModel_putIn_34 ⟨fun _ => h, fun e => absurd (by rw [nI_1 q, nI_ltI (by omega) (by omega)]; omega) e⟩⟩
    | some t =>
      have htT := (choice_pos hhN_pos hc).1
      rw [show dgO (some t) = t from rfl, if_neg (by omega)] at h
      refine bModel_putIn_143 ⟨fun _ => m_behind1 mp (by omega) (by omega) (fun x1 _ _ => bModel_putIn_34 ⟨fun _ => h, fun e => absurd (by rw [nI_1 q, nI_ltI (by omega) (by omega)]; omega) e⟩), fun e => absurd e (nI_neN (by omega))⟩
  | succ n ih =>
    intro q y xq x3 hn hy hb hd
    refine bModel_putIn_34 ⟨fun e => absurd e (by rw [nI_ltI (by omega) (by omega)]; omega), fun _ => m_walk46 s ws v w mp mt (by omega) hy (fun x5 => ?_)⟩
    obtain ⟨k, hk⟩ : ∃ k, k = P - (q + 1) := ⟨_, rfl⟩
    rw [show P - q = k + 1 by omega] at hb
    rw [← hk]
    obtain ⟨x', hb', hx'⟩ := choice hT hP hhN_pos (by omega) hb
    rw [EW_w (p := q) (by omega) hP] at hx'
    have e10 : 9 ^ (10 - q) = 9 ^ (9 - q) * 9 := by rw [show 10 - q = 9 - q + 1 by omega, Nat.pow_succ]
    rw [e10] at hd
    have hM : HR = 9 ^ (9 - q) * 9 * 9 ^ q := by rw [HR_pow, ← Nat.pow_succ, ← Nat.pow_add, show (9 - q).succ + q = 10 by omega]
    have cy := carry hM hd hx'
    rw [show 9 - q = 10 - (q + 1) by omega] at cy
    generalize hc : chM T P (stB Y kd dd) (hhN pl) k (dg r3 y) = ch at hb' ⊢
    cases ch with
    | none =>
      refine bModel_putIn_143 ⟨fun e => absurd rfl e, fun _ => ?_⟩
      rw [nI_1 q]
      exact ih (q + 1) y x' _ (by omega) hy (by rw [← hk]; exact hb') cy
    | some t =>
      have htT := (choice_pos hhN_pos hc).1
      refine bModel_putIn_143 ⟨fun _ => m_behind1 mp (by omega) (by omega) (fun x1 hx1 hle => ?_), fun e => absurd e (nI_neN (by omega))⟩
      rw [nI_1 q]
      exact ih (q + 1) x1 x' _ (by omega) (by omega) (by rw [← hk, hx1]; exact hb') cy
theorem m_putIn1 (s : MSh T dr pl mu lf F) (ws : WSh T dr pl mu lf) (v : MCo P Y kd sz ow dd rh fm ou F) (w : WCo T P Y kd sz ow dd rh fm ou) {p : Nat} (hp : p < P) (h1 : ∀ F' x0, Fr [57, 58] F F' → bV T P (stB Y kd dd) (hhN pl) P (NVc T P Y kd dd) = some x0 → Q (oN (if x0 % HR / 9 ^ (9 - p) % 9 = 8 then none else some (x0 % HR / 9 ^ (9 - p) % 9))) F' G) (h0 : ∀ F', Fr [57, 58] F F' → bV T P (stB Y kd dd) (hhN pl) P (NVc T P Y kd dd) = none → Q (-1000000002) F' G) : AMi D (d + 5) nModel_putIn [.ref 39, .int (nI p)] F G Q := by
  have hP := v.1
  have hT := s.1
  have h6 := wt3_le (t := T) hT
  have hf := fst_lt (T := T) (P := P) (Y := Y) (kd := kd) (dd := dd)
  refine eModel_putIn (m_isPerson1 v hp ⟨fun _ => m_findPlan1 s ws v w (fun F' f1 mp mt => ?_), fun e => absurd e ne10⟩)
  have hix := ix1 (n := 72171) (c := fstN T P Y kd dd) (by omega) (by omega)
  have e := mt 0 (fstN T P Y kd dd) (Nat.le_refl 0) (by omega) hf
  rw [Nat.mul_zero, Nat.zero_add, Nat.sub_zero, fst_dg] at e
  rw [hix.2, e, oM_pos (fun k hk => by have := mV_lim hP hk; omega)]
  have b := bm (st := stB Y kd dd) (hh := hhN pl) hT hP P (NVc T P Y kd dd) (Nat.le_refl P)
  cases hb : bV T P (stB Y kd dd) (hhN pl) P (NVc T P Y kd dd) with
  | none => exact ⟨hix.1, fun e => absurd (b.1 hb) e, fun _ => h0 F' f1 hb⟩
  | some x =>
    obtain ⟨hrs, dig, hm, _, _⟩ := b.2 x hb
    refine ⟨hix.1, fun _ => ?_, fun e => absurd (fun z => by rw [hm] at z; cases z) e⟩
    refine m_walk34 (MSh_fr f1 (by decide) s) ws (MCo_fr f1 (by decide) v) w mp mt hp (h1 F' x f1 hb) p 0 _ x _ (by omega) hf ?_ rfl
    rw [Nat.sub_zero, fst_dg]
    exact hb
theorem st_plan : Step D (d + 7) nDesk_plan nModel_plan [] := by
  intro F G ⟨T, dr, pl, mu, lf, P, Y, kd, sz, ow, dd, rh, fm, ou, hc, ca, ho, sl, sv, hS, hC, hN, hT⟩
  have hP := hC.1.1
  have hT8 := hS.1.1
  have b := bm (st := stB Y kd dd) (hh := hhN pl) hT8 hP P (NVc T P Y kd dd) (Nat.le_refl P)
  rw [← wV_bV hP NVc_hi] at b
  have fin : ∀ F', Fr [29, 30, 31, 107] F F' → ∀ F2, Fr [57, 58] F' F2 → RI F2 := fun F' f1 F2 f2 => ⟨T, dr, pl, mu, lf, P, Y, kd, sz, ow, dd, rh, fm, ou, hc, ca, ho, sl, sv, RS_fr (f1.tr f2) (by decide) hS, RC_fr (f1.tr f2) (by decide) hC, RN_fr (f1.tr f2) (by decide) hN, RT_fr (f1.tr f2) (by decide) hT⟩
  refine eDesk_plan (c_find1 hS.1 hS.2.2 hC.1 hC.2.2 (fun F' G' x f1 pp h576 tb hw => ⟨fun e => absurd e ne10, fun _ => c_hours1 pp h576 tb hT8 hP hw ?_⟩) (fun F' G' f1 hw => ⟨fun _ => ?_, fun e => absurd rfl e⟩))
  · obtain ⟨hrs, dig, hm, hx, hd⟩ := b.2 x hw
    have hd := Nat.lt_of_lt_of_le hd (EW_HR (Nat.le_refl P) hP)
    refine m_plan1 (MSh_fr f1 (by decide) hS.2.1) hS.2.2 (MCo_fr f1 (by decide) hC.2.1) hC.2.2 (fun F2 y f2 hy => ⟨?_, fin F' f1 F2 f2⟩) (fun F2 f2 hy => ?_)
    · rw [hm] at hy
      cases hy
      rw [hx, Nat.mul_comm, Nat.mul_add_div (by decide), Nat.div_eq_of_lt hd, Nat.add_zero]
    · rw [hm] at hy; cases hy
  · refine m_plan1 (MSh_fr f1 (by decide) hS.2.1) hS.2.2 (MCo_fr f1 (by decide) hC.2.1) hC.2.2 (fun F2 y f2 hy => ?_) (fun F2 f2 hy => ⟨rfl, fin F' f1 F2 f2⟩)
    rw [b.1 hw] at hy
    cases hy
theorem st_putIn {a : Int32} : Step D (d + 7) nDesk_putIn nModel_putIn [.int a] := by
  intro F G ⟨T, dr, pl, mu, lf, P, Y, kd, sz, ow, dd, rh, fm, ou, hc, ca, ho, sl, sv, hS, hC, hN, hT⟩
  have same : RI F := ⟨T, dr, pl, mu, lf, P, Y, kd, sz, ow, dd, rh, fm, ou, hc, ca, ho, sl, sv, hS, hC, hN, hT⟩
  have hP := hC.1.1
  have hT8 := hS.1.1
  have fin : ∀ F', Fr [29, 30, 31, 107] F F' → ∀ F2, Fr [57, 58] F' F2 → RI F2 := fun F' f1 F2 f2 => ⟨T, dr, pl, mu, lf, P, Y, kd, sz, ow, dd, rh, fm, ou, hc, ca, ho, sl, sv, RS_fr (f1.tr f2) (by decide) hS, RC_fr (f1.tr f2) (by decide) hC, RN_fr (f1.tr f2) (by decide) hN, RT_fr (f1.tr f2) (by decide) hT⟩
  refine eDesk_putIn (c_isPerson hC.1 (fun p hp ea => ⟨fun _ => ?_, fun e => absurd e ne10⟩) (fun z => ⟨fun e => absurd rfl e, fun _ => eModel_putIn (m_isPerson0 hC.2.1 z ⟨fun e => absurd rfl e, fun _ => ⟨rfl, same⟩⟩)⟩))
  subst ea
  refine c_find1 hS.1 hS.2.2 hC.1 hC.2.2 (fun F' G' x f1 pp h576 tb hw => ⟨fun e => absurd e ne10, fun _ => c_trackOf1 pp h576 tb hT8 hP hp hw ?_⟩) (fun F' G' f1 hw => ⟨fun _ => ?_, fun e => absurd rfl e⟩)
  · refine m_putIn1 (MSh_fr f1 (by decide) hS.2.1) hS.2.2 (MCo_fr f1 (by decide) hC.2.1) hC.2.2 hp (fun F2 y f2 hy => ⟨?_, fin F' f1 F2 f2⟩) (fun F2 f2 hy => ?_)
    · rw [← wV_bV hP NVc_hi, hw] at hy
      cases hy
      rfl
    · rw [← wV_bV hP NVc_hi, hw] at hy; cases hy
  · refine m_putIn1 (MSh_fr f1 (by decide) hS.2.1) hS.2.2 (MCo_fr f1 (by decide) hC.2.1) hC.2.2 hp (fun F2 y f2 hy => ?_) (fun F2 f2 hy => ⟨rfl, fin F' f1 F2 f2⟩)
    rw [← wV_bV hP NVc_hi, hw] at hy
    cases hy
end PLANS
