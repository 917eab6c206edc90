/-! Arrays.fill, of ints, bytes and longs, over any heap -/
def gFl {α : Type} (f : Nat → α) (v : α) (i : Nat) : Nat → α := fun j => if j < i then v else f j
theorem gFl_0 {α : Type} (f : Nat → α) (v : α) : gFl f v 0 = f := by funext j; simp [gFl]
theorem gFl_s (f : Nat → Int32) (v : Int32) (i : Nat) : upd (gFl f v i) i v = gFl f v (i + 1) := by
  funext j
  unfold upd gFl
  by_cases h : j = i
  · subst h; simp
  · rw [if_neg h]
    by_cases h2 : j < i
    · rw [if_pos h2, if_pos (by omega)]
    · rw [if_neg h2, if_neg (by omega)]
theorem gFl_l (f : Nat → Int64) (v : Int64) (i : Nat) : vp_updL (gFl f v i) i v = gFl f v (i + 1) := by
  funext j
  unfold vp_updL gFl
  by_cases h : j = i
  · subst h; simp
  · rw [if_neg h]
    by_cases h2 : j < i
    · rw [if_pos h2, if_pos (by omega)]
    · rw [if_neg h2, if_neg (by omega)]
theorem gset_at {h : gAH} {q : Nat} {x : gAE} (y : gAE) (hq : h[q]? = some x) : (h.set q y)[q]? = some y := by
  rw [List.getElem?_set, if_pos rfl, if_pos (List.getElem?_eq_some_iff.mp hq).1]
theorem gset_same {h : gAH} {q : Nat} {x : gAE} (hq : h[q]? = some x) : h.set q x = h := by
  apply List.ext_getElem?
  intro i
  rw [List.getElem?_set]
  split
  · rename_i e
    subst e
    rw [if_pos (List.getElem?_eq_some_iff.mp hq).1, hq]
  · rfl
section GFILL
variable {D : va_G} {d : Nat} {Q : Option Value → gAH → Prop}
set_option maxRecDepth 20000 in
theorem fillI_loop {h : gAH} {q n : Nat} {f : Nat → Int32} {v : Int32} (hn : n < 2 ^ 31) (hq : h[q]? = some (.inl (.int, n, .inl f))) (hQ : Q none (h.set q (.inl (.int, n, .inl (gFl f v n))))) : ∀ (k i : Nat), i + k = n → AW D d nArrays_fillI 5 [(3, .int (nI n)), (2, .int (nI i)), (0, .ref (q + 1)), (1, .int v)] [] (h.set q (.inl (.int, n, .inl (gFl f v i)))) 0 0 Q := by
  intro k
  induction k with
  | zero =>
    intro i hi X CX
    have e : i = n := by omega
    subst e
    refine gw_iload_n CX.1 1 rfl dArrays_fillI_5 rfl ?_
    refine gw_iload_n CX.1 0 rfl dArrays_fillI_6 rfl ?_
    refine gw_icmp_ge (tgt := 20) CX.1 dArrays_fillI_7 (by decide) (fun c => ?_) (fun c => ?_)
    · exact gw_vret CX rfl hQ (Nat.zero_le _) (Nat.zero_le _) dArrays_fillI_20
    · exact absurd (nI_le (Nat.le_refl i) hn) c
  | succ k ih =>
    intro i hi X CX
    refine gw_iload_n CX.1 1 rfl dArrays_fillI_5 rfl ?_
    refine gw_iload_n CX.1 0 rfl dArrays_fillI_6 rfl ?_
    refine gw_icmp_ge (tgt := 20) CX.1 dArrays_fillI_7 (by decide) (fun c => ?_) (fun c => ?_)
    · exact absurd c (nI_ge (by omega) hn)
    · refine gw_aload_n CX.1 2 rfl dArrays_fillI_10 rfl ?_
      refine gw_iload_n CX.1 1 rfl dArrays_fillI_11 rfl ?_
      refine gw_iload_n CX.1 3 rfl dArrays_fillI_12 rfl ?_
      refine gw_iast CX.1 (gset_at _ hq) (vp_in_nI (by omega) hn) dArrays_fillI_13 ?_
      rw [List.set_set, nI_clamp (by omega), gFl_s]
      refine gw_iinc (v := nI (i + 1)) CX.1 1 rfl dArrays_fillI_14 (nI_1 i) (by decide) rfl ?_
      refine gw_goto (tgt := 5) CX.1 dArrays_fillI_17 (by decide) ?_
      exact gw_sub [1, 0, 2, 3] rfl (ih (i + 1) (by omega) X CX)
theorem am_fillI {h : gAH} {q n : Nat} {f : Nat → Int32} {v : Int32} (hn : n < 2 ^ 31) (hq : h[q]? = some (.inl (.int, n, .inl f))) (hQ : Q none (h.set q (.inl (.int, n, .inl (gFl f v n))))) : AM D d nArrays_fillI [.ref (q + 1), .int v] h Q := by
  refine AM_intro (by decide) (Nat.le_of_ble_eq_true rfl) ?_
  intro X CX
  refine gw_iconst (v := 0) CX.1 dArrays_fillI_0 (by decide) ?_
  refine gw_istore_n CX.1 dArrays_fillI_1 rfl (by decide) rfl ?_
  refine gw_aload_n CX.1 1 rfl dArrays_fillI_2 rfl ?_
  refine gw_alen (v := nI n) CX.1 hq rfl dArrays_fillI_3 ?_
  refine gw_istore_n CX.1 dArrays_fillI_4 rfl (by decide) rfl ?_
  have hl := fillI_loop (D := D) (d := d) hn hq hQ n 0 (by omega) X CX
  rw [gFl_0, gset_same hq] at hl
  exact hl
set_option maxRecDepth 20000 in
theorem fillB_loop {h : gAH} {q n : Nat} {f : Nat → Int32} {v : Int32} (hv : vp_nar .byte v = v) (hn : n < 2 ^ 31) (hq : h[q]? = some (.inl (.byte, n, .inl f))) (hQ : Q none (h.set q (.inl (.byte, n, .inl (gFl f v n))))) : ∀ (k i : Nat), i + k = n → AW D d nArrays_fillB 5 [(3, .int (nI n)), (2, .int (nI i)), (0, .ref (q + 1)), (1, .int v)] [] (h.set q (.inl (.byte, n, .inl (gFl f v i)))) 0 0 Q := by
  intro k
  induction k with
  | zero =>
    intro i hi X CX
    have e : i = n := by omega
    subst e
    refine gw_iload_n CX.1 1 rfl dArrays_fillB_5 rfl ?_
    refine gw_iload_n CX.1 0 rfl dArrays_fillB_6 rfl ?_
    refine gw_icmp_ge (tgt := 20) CX.1 dArrays_fillB_7 (by decide) (fun c => ?_) (fun c => ?_)
    · exact gw_vret CX rfl hQ (Nat.zero_le _) (Nat.zero_le _) dArrays_fillB_20
    · exact absurd (nI_le (Nat.le_refl i) hn) c
  | succ k ih =>
    intro i hi X CX
    refine gw_iload_n CX.1 1 rfl dArrays_fillB_5 rfl ?_
    refine gw_iload_n CX.1 0 rfl dArrays_fillB_6 rfl ?_
    refine gw_icmp_ge (tgt := 20) CX.1 dArrays_fillB_7 (by decide) (fun c => ?_) (fun c => ?_)
    · exact absurd c (nI_ge (by omega) hn)
    · refine gw_aload_n CX.1 2 rfl dArrays_fillB_10 rfl ?_
      refine gw_iload_n CX.1 1 rfl dArrays_fillB_11 rfl ?_
      refine gw_iload_n CX.1 3 rfl dArrays_fillB_12 rfl ?_
      refine gw_bast CX.1 (gset_at _ hq) (vp_in_nI (by omega) hn) dArrays_fillB_13 ?_
      rw [List.set_set, nI_clamp (by omega), hv, gFl_s]
      refine gw_iinc (v := nI (i + 1)) CX.1 1 rfl dArrays_fillB_14 (nI_1 i) (by decide) rfl ?_
      refine gw_goto (tgt := 5) CX.1 dArrays_fillB_17 (by decide) ?_
      exact gw_sub [1, 0, 2, 3] rfl (ih (i + 1) (by omega) X CX)
theorem am_fillB {h : gAH} {q n : Nat} {f : Nat → Int32} {v : Int32} (hv : vp_nar .byte v = v) (hn : n < 2 ^ 31) (hq : h[q]? = some (.inl (.byte, n, .inl f))) (hQ : Q none (h.set q (.inl (.byte, n, .inl (gFl f v n))))) : AM D d nArrays_fillB [.ref (q + 1), .int v] h Q := by
  refine AM_intro (by decide) (Nat.le_of_ble_eq_true rfl) ?_
  intro X CX
  refine gw_iconst (v := 0) CX.1 dArrays_fillB_0 (by decide) ?_
  refine gw_istore_n CX.1 dArrays_fillB_1 rfl (by decide) rfl ?_
  refine gw_aload_n CX.1 1 rfl dArrays_fillB_2 rfl ?_
  refine gw_alen (v := nI n) CX.1 hq rfl dArrays_fillB_3 ?_
  refine gw_istore_n CX.1 dArrays_fillB_4 rfl (by decide) rfl ?_
  have hl := fillB_loop (D := D) (d := d) hv hn hq hQ n 0 (by omega) X CX
  rw [gFl_0, gset_same hq] at hl
  exact hl
set_option maxRecDepth 20000 in
theorem fillJ_loop {h : gAH} {q n : Nat} {f : Nat → Int64} {v : Int64} (hn : n < 2 ^ 31) (hq : h[q]? = some (.inl (.long, n, .inr (.inl f)))) (hQ : Q none (h.set q (.inl (.long, n, .inr (.inl (gFl f v n)))))) : ∀ (k i : Nat), i + k = n → AW D d nArrays_fillJ 6 [(4, .int (nI n)), (3, .int (nI i)), (0, .ref (q + 1)), (1, .long v)] [] (h.set q (.inl (.long, n, .inr (.inl (gFl f v i))))) 0 0 Q := by
  intro k
  induction k with
  | zero =>
    intro i hi X CX
    have e : i = n := by omega
    subst e
    refine gw_iload_n CX.1 1 rfl dArrays_fillJ_6 rfl ?_
    refine gw_iload CX.1 0 rfl dArrays_fillJ_7 ?_
    refine gw_icmp_ge (tgt := 22) CX.1 dArrays_fillJ_9 (by decide) (fun c => ?_) (fun c => ?_)
    · exact gw_vret CX rfl hQ (Nat.zero_le _) (Nat.zero_le _) dArrays_fillJ_22
    · exact absurd (nI_le (Nat.le_refl i) hn) c
  | succ k ih =>
    intro i hi X CX
    refine gw_iload_n CX.1 1 rfl dArrays_fillJ_6 rfl ?_
    refine gw_iload CX.1 0 rfl dArrays_fillJ_7 ?_
    refine gw_icmp_ge (tgt := 22) CX.1 dArrays_fillJ_9 (by decide) (fun c => ?_) (fun c => ?_)
    · exact absurd c (nI_ge (by omega) hn)
    · refine gw_aload_n CX.1 2 rfl dArrays_fillJ_12 rfl ?_
      refine gw_iload_n CX.1 1 rfl dArrays_fillJ_13 rfl ?_
      refine gw_lload_n CX.1 3 rfl dArrays_fillJ_14 rfl ?_
      refine gw_last CX.1 (gset_at _ hq) (vp_in_nI (by omega) hn) dArrays_fillJ_15 ?_
      rw [List.set_set, nI_clamp (by omega), gFl_l]
      refine gw_iinc (v := nI (i + 1)) CX.1 1 rfl dArrays_fillJ_16 (nI_1 i) (by decide) rfl ?_
      refine gw_goto (tgt := 6) CX.1 dArrays_fillJ_19 (by decide) ?_
      exact gw_sub [1, 0, 2, 3] rfl (ih (i + 1) (by omega) X CX)
theorem am_fillJ {h : gAH} {q n : Nat} {f : Nat → Int64} {v : Int64} (hn : n < 2 ^ 31) (hq : h[q]? = some (.inl (.long, n, .inr (.inl f)))) (hQ : Q none (h.set q (.inl (.long, n, .inr (.inl (gFl f v n)))))) : AM D d nArrays_fillJ [.ref (q + 1), .long v] h Q := by
  refine AM_intro (by decide) (Nat.le_of_ble_eq_true rfl) ?_
  intro X CX
  refine gw_iconst (v := 0) CX.1 dArrays_fillJ_0 (by decide) ?_
  refine gw_istore_n CX.1 dArrays_fillJ_1 rfl (by decide) rfl ?_
  refine gw_aload_n CX.1 1 rfl dArrays_fillJ_2 rfl ?_
  refine gw_alen (v := nI n) CX.1 hq rfl dArrays_fillJ_3 ?_
  refine gw_istore CX.1 dArrays_fillJ_4 (by decide) rfl ?_
  have hl := fillJ_loop (D := D) (d := d) hn hq hQ n 0 (by omega) X CX
  rw [gFl_0, gset_same hq] at hl
  exact hl
end GFILL
section GCF
variable {X : gCx} {M : gMd} {pc : Nat} {L : List (Nat × Value)} {S : List Value} {F : Nat → Nat → Int32} {G : Nat → Int64} {D : va_G} {d : Nat} {Q0 : Option Value → gAH → Prop}
theorem gcf_I (CX : gCX D (d + 1) M Q0 X) {index q n : Nat} {v : Int32} {f : Nat → Int32} {F' : Nat → Nat → Int32} (hsum : (S.map fun v => v.category).sum ≤ 8) (hl : Cond.methodLink M.1.cls index nArrays_fillI.1 ∈ gT) (hd : decode M.2.1 pc = .ok (.invokestatic index, 3)) (hn : n < 2 ^ 31) (hq : (mk F G)[q]? = some (.inl (.int, n, .inl f))) (he : (mk F G).set q (.inl (.int, n, .inl (gFl f v n))) = mk F' G) (k : GW X M (pc + 3) L S (mk F' G) 0 0) : GW X M pc L (.int v :: .ref (q + 1) :: S) (mk F G) 0 0 :=
  gcSv (Q := fun F1 G1 => F1 = F' ∧ G1 = G) (av := [.ref (q + 1), .int v]) CX nArrays_fillI ok_Arrays_fillI rfl wst_Arrays_fillI wini_Arrays hsum rfl hl hd (am_fillI hn hq ⟨F', G, rfl, he, rfl, rfl⟩) (fun F1 G1 h => by obtain ⟨rfl, rfl⟩ := h; exact k)
theorem gcf_B (CX : gCX D (d + 1) M Q0 X) {index q n : Nat} {v : Int32} {f : Nat → Int32} {F' : Nat → Nat → Int32} (hsum : (S.map fun v => v.category).sum ≤ 8) (hl : Cond.methodLink M.1.cls index nArrays_fillB.1 ∈ gT) (hd : decode M.2.1 pc = .ok (.invokestatic index, 3)) (hv : vp_nar .byte v = v) (hn : n < 2 ^ 31) (hq : (mk F G)[q]? = some (.inl (.byte, n, .inl f))) (he : (mk F G).set q (.inl (.byte, n, .inl (gFl f v n))) = mk F' G) (k : GW X M (pc + 3) L S (mk F' G) 0 0) : GW X M pc L (.int v :: .ref (q + 1) :: S) (mk F G) 0 0 :=
  gcSv (Q := fun F1 G1 => F1 = F' ∧ G1 = G) (av := [.ref (q + 1), .int v]) CX nArrays_fillB ok_Arrays_fillB rfl wst_Arrays_fillB wini_Arrays hsum rfl hl hd (am_fillB hv hn hq ⟨F', G, rfl, he, rfl, rfl⟩) (fun F1 G1 h => by obtain ⟨rfl, rfl⟩ := h; exact k)
theorem gcf_J (CX : gCX D (d + 1) M Q0 X) {index q n : Nat} {v : Int64} {f : Nat → Int64} {G' : Nat → Int64} (hsum : (S.map fun v => v.category).sum ≤ 8) (hl : Cond.methodLink M.1.cls index nArrays_fillJ.1 ∈ gT) (hd : decode M.2.1 pc = .ok (.invokestatic index, 3)) (hn : n < 2 ^ 31) (hq : (mk F G)[q]? = some (.inl (.long, n, .inr (.inl f)))) (he : (mk F G).set q (.inl (.long, n, .inr (.inl (gFl f v n)))) = mk F G') (k : GW X M (pc + 3) L S (mk F G') 0 0) : GW X M pc L (.long v :: .ref (q + 1) :: S) (mk F G) 0 0 :=
  gcSv (Q := fun F1 G1 => F1 = F ∧ G1 = G') (av := [.ref (q + 1), .long v]) CX nArrays_fillJ ok_Arrays_fillJ rfl wst_Arrays_fillJ wini_Arrays hsum rfl hl hd (am_fillJ hn hq ⟨F, G', rfl, he, rfl, rfl⟩) (fun F1 G1 h => by obtain ⟨rfl, rfl⟩ := h; exact k)
theorem gCX_copy (CX : gCX D (d + 1) M Q0 X) : match X with | ((_, _, _, R, _, _, _, _), _) => 1 ≤ R.frames ∧ nativeFrameWords "java/lang/System" "arraycopy" 5 + 19 ≤ R.locals := by
  obtain ⟨⟨p, l, e, R, s, m, args, below⟩, ⟨meth, c, D', b, A, s0, Z⟩⟩ := X
  obtain ⟨C, hD0, hR, hret, hlocks, hnm, hZ⟩ := CX
  subst hR
  refine ⟨by show 1 ≤ d + 1; omega, ?_⟩
  show nativeFrameWords "java/lang/System" "arraycopy" 5 + 19 ≤ 40 * (d + 1)
  have e : nativeFrameWords "java/lang/System" "arraycopy" 5 + 19 ≤ 40 := by decide +kernel
  omega
end GCF
section GMATH
variable {X : gCx} {M : gMd} {pc : Nat} {L : List (Nat × Value)} {S : List Value} {h : gAH} {D : va_G} {d : Nat} {Q0 : Option Value → gAH → Prop}
theorem wma_l : Cond.code Lib.Math.abs.name Lib.Math.abs.code 1 (some .int) ∈ gT := ok_Math_abs.1
theorem wmx_l : Cond.code Lib.Math.max.name Lib.Math.max.code 2 (some .int) ∈ gT := ok_Math_max.1
theorem wmn_l : Cond.code Lib.MathLoose.min_long.x Lib.MathLoose.min_long.code 4 (some .long) ∈ gT := ok_Math_min.1
theorem gw_mabs (CX : gCX D (d + 1) M Q0 X) {index : Nat} {x : Int32} (hsum : (S.map fun v => v.category).sum ≤ 8) (hl : Cond.methodLink M.1.cls index nMath_abs.1 ∈ gT) (hd : decode M.2.1 pc = .ok (.invokestatic index, 3)) (k : GW X M (pc + 3) L (.int (if 0 ≤ x then x else 0 - x) :: S) h 0 0) : GW X M pc L (.int x :: S) h 0 0 := by
  obtain ⟨⟨p, l, e, R, s, m, args, below⟩, ⟨meth, c, D', b, A, s0, Z⟩⟩ := X
  obtain ⟨⟨hx, hb, hml, hown, hts, hN, hK, hA⟩, hD0, hR, hret, hlocks, hnm, hZ⟩ := CX
  intro ws H locs ls S' ⟨hP, hD, hS, hRH, hpre, ⟨L', hl1, hLP⟩, hSt⟩
  obtain ⟨S1, rfl, hSt1⟩ := gRS_int hSt
  have hcat := gRS_cat hSt1
  subst hR
  exact va_mabs hx hb (by rw [hml]; exact hl1.1.symm) hown (hts _ hl) (hts _ wst_Math_abs) (hts _ wini_Math) (hts _ wma_l) (by show 1 ≤ d + 1; omega) (by rw [hcat]; show _ ≤ 40 * (d + 1); omega) (Nat.zero_le _) (Nat.zero_le _) hd (k ws H locs ls _ ⟨hP, hD, hS, hRH, hpre, ⟨L', hl1, hLP⟩, rfl, hSt1⟩)
theorem gw_mmax (CX : gCX D (d + 1) M Q0 X) {index : Nat} {x y : Int32} (hsum : (S.map fun v => v.category).sum ≤ 8) (hl : Cond.methodLink M.1.cls index nMath_max.1 ∈ gT) (hd : decode M.2.1 pc = .ok (.invokestatic index, 3)) (k : GW X M (pc + 3) L (.int (if x < y then y else x) :: S) h 0 0) : GW X M pc L (.int y :: .int x :: S) h 0 0 := by
  obtain ⟨⟨p, l, e, R, s, m, args, below⟩, ⟨meth, c, D', b, A, s0, Z⟩⟩ := X
  obtain ⟨⟨hx, hb, hml, hown, hts, hN, hK, hA⟩, hD0, hR, hret, hlocks, hnm, hZ⟩ := CX
  intro ws H locs ls S' ⟨hP, hD, hS, hRH, hpre, ⟨L', hl1, hLP⟩, hSt⟩
  obtain ⟨S1, rfl, hSt1⟩ := gRS_int hSt
  obtain ⟨S2, rfl, hSt2⟩ := gRS_int hSt1
  have hcat := gRS_cat hSt2
  subst hR
  exact va_mmax hx hb (by rw [hml]; exact hl1.1.symm) hown (hts _ hl) (hts _ wst_Math_max) (hts _ wini_Math) (hts _ wmx_l) (by show 1 ≤ d + 1; omega) (by rw [hcat]; show _ ≤ 40 * (d + 1); omega) (Nat.zero_le _) (Nat.zero_le _) hd (k ws H locs ls _ ⟨hP, hD, hS, hRH, hpre, ⟨L', hl1, hLP⟩, rfl, hSt2⟩)
theorem gw_mmin (CX : gCX D (d + 1) M Q0 X) {index : Nat} {x y : Int64} (hsum : (S.map fun v => v.category).sum ≤ 8) (hl : Cond.methodLink M.1.cls index nMath_min.1 ∈ gT) (hd : decode M.2.1 pc = .ok (.invokestatic index, 3)) (k : GW X M (pc + 3) L (.long (if y < x then y else x) :: S) h 0 0) : GW X M pc L (.long y :: .long x :: S) h 0 0 := by
  obtain ⟨⟨p, l, e, R, s, m, args, below⟩, ⟨meth, c, D', b, A, s0, Z⟩⟩ := X
  obtain ⟨⟨hx, hb, hml, hown, hts, hN, hK, hA⟩, hD0, hR, hret, hlocks, hnm, hZ⟩ := CX
  intro ws H locs ls S' ⟨hP, hD, hS, hRH, hpre, ⟨L', hl1, hLP⟩, hSt⟩
  obtain ⟨S1, rfl, hSt1⟩ := gRS_long hSt
  obtain ⟨S2, rfl, hSt2⟩ := gRS_long hSt1
  have hcat := gRS_cat hSt2
  subst hR
  exact va_mmin_long hx hb (by rw [hml]; exact hl1.1.symm) hown (hts _ hl) (hts _ wst_Math_min) (hts _ wini_Math) (hts _ wmn_l) (by show 1 ≤ d + 1; omega) (by rw [hcat]; show _ ≤ 40 * (d + 1); omega) (Nat.zero_le _) (Nat.zero_le _) hd (k ws H locs ls _ ⟨hP, hD, hS, hRH, hpre, ⟨L', hl1, hLP⟩, rfl, hSt2⟩)
end GMATH
