theorem eNight_clear {D : va_G} {d : Nat} {Q : (Nat → Nat → Int32) → (Nat → Int64) → Prop} {F : Nat → Nat → Int32} {G : Nat → Int64} (H : Q (upA (upA (upS F 103 0) 16 (gFl ((upS F 103 0) 16) (-1000000005) 8)) 17 (gFl ((upA (upS F 103 0) 16 (gFl ((upS F 103 0) 16) (-1000000005) 8)) 17) (-1000000005) 240)) G) : AMv D (d + 1) nNight_clear [.ref 16] F G Q := by
  refine AM_intro (by decide) (Nat.le_of_ble_eq_true rfl) ?_
  intro X CX
  refine gw_aload_n CX.1 0 rfl dNight_clear_0 rfl ?_
  refine gw_iconst (v := 0) CX.1 dNight_clear_1 (by decide) ?_
  refine gp_Night_19 CX.1 rfl (by decide) dNight_clear_2 ?_
  refine gw_aload_n CX.1 0 rfl dNight_clear_5 rfl ?_
  refine gg_Night_23 CX.1 rfl dNight_clear_6 ?_
  refine gw_ldc CX.1 wc_Night_30 dNight_clear_9 ?_
  refine gcf_I (F' := (upA (upS F 103 0) 16 (gFl ((upS F 103 0) 16) (-1000000005) 8))) CX (Nat.le_of_ble_eq_true rfl) wm_Night_31 dNight_clear_11 (by decide) mk_16 (ms_16 _) ?_
  refine gw_aload_n CX.1 0 rfl dNight_clear_14 rfl ?_
  refine gg_Night_27 CX.1 rfl dNight_clear_15 ?_
  refine gw_ldc CX.1 wc_Night_30 dNight_clear_18 ?_
  refine gcf_I (F' := (upA (upA (upS F 103 0) 16 (gFl ((upS F 103 0) 16) (-1000000005) 8)) 17 (gFl ((upA (upS F 103 0) 16 (gFl ((upS F 103 0) 16) (-1000000005) 8)) 17) (-1000000005) 240))) CX (Nat.le_of_ble_eq_true rfl) wm_Night_31 dNight_clear_20 (by decide) mk_17 (ms_17 _) ?_
  exact gw_vret CX rfl ⟨_, _, rfl, rfl, H⟩ (Nat.zero_le _) (Nat.zero_le _) dNight_clear_23
theorem bNight_begin_11 {D : va_G} {d : Nat} {Q : (Nat → Nat → Int32) → (Nat → Int64) → Prop} {F : Nat → Nat → Int32} {G : Nat → Int64} {x2 : Int32} (H : AMi D d nShow_tracks [.ref 2] F G (fun x1_ F1 G1 => ((x1_ ≤ x2 → Q F1 G1) ∧ (¬ (x1_ ≤ x2) → AMi D d nCastSearch_bestAt [.ref 19, .int x2] F1 G1 (fun x2_ F2 G2 => vp_in x2 8 ∧ AMv D d nNight_holdFrom [.ref 16, .int x2, .int 0, .int x2_] (up F2 16 (x2.toNatClampNeg) x2_) G2 (fun F3 G3 => AWv D (d + 1) nNight_begin 11 [(0, .ref 16), (1, .ref 19), (2, .int (x2 + 1))] [] F3 G3 Q)))))) : AWv D (d + 1) nNight_begin 11 [(0, .ref 16), (1, .ref 19), (2, .int x2)] [] F G Q := by
  intro X CX
  refine gw_iload_n CX.1 2 rfl dNight_begin_11 rfl ?_
  refine gw_aload_n CX.1 0 rfl dNight_begin_12 rfl ?_
  refine gg_Night_9 CX.1 rfl dNight_begin_13 ?_
  refine cl_Show_tracks CX (Nat.le_of_ble_eq_true rfl) wm_Night_40 dNight_begin_16 H (fun x1_ F1 G1 H => ?_)
  refine gw_icmp_ge (tgt := 48) CX.1 dNight_begin_19 (by decide) (fun c => ?_) (fun c => ?_)
  · replace H := H.1 c
    exact gw_vret CX rfl ⟨_, _, rfl, rfl, H⟩ (Nat.zero_le _) (Nat.zero_le _) dNight_begin_48
  · replace H := H.2 c
    refine gw_aload_n CX.1 1 rfl dNight_begin_22 rfl ?_
    refine gw_iload_n CX.1 2 rfl dNight_begin_23 rfl ?_
    refine cl_CastSearch_bestAt CX (Nat.le_of_ble_eq_true rfl) wm_Night_46 dNight_begin_24 H (fun x2_ F2 G2 H => ?_)
    refine gw_istore_n CX.1 dNight_begin_27 rfl (by decide) rfl ?_
    refine gw_aload_n CX.1 1 rfl dNight_begin_28 rfl ?_
    refine gg_Night_23 CX.1 rfl dNight_begin_29 ?_
    refine gw_iload_n CX.1 3 rfl dNight_begin_32 rfl ?_
    refine gw_iload_n CX.1 0 rfl dNight_begin_33 rfl ?_
    obtain ⟨hin, H⟩ := H
    refine gs_16 CX.1 hin dNight_begin_34 ?_
    refine gw_aload_n CX.1 1 rfl dNight_begin_35 rfl ?_
    refine gw_iload_n CX.1 3 rfl dNight_begin_36 rfl ?_
    refine gw_iconst (v := 0) CX.1 dNight_begin_37 (by decide) ?_
    refine gw_iload_n CX.1 0 rfl dNight_begin_38 rfl ?_
    refine cl_Night_holdFrom CX (Nat.le_of_ble_eq_true rfl) wm_Night_52 dNight_begin_39 H (fun F3 G3 H => ?_)
    refine gw_iinc (v := (x2 + 1)) CX.1 3 rfl dNight_begin_42 rfl (by decide) rfl ?_
    refine gw_goto (tgt := 11) CX.1 dNight_begin_45 (by decide) ?_
    exact gw_sub [2, 3, 0] rfl (H X CX)
theorem eNight_begin {D : va_G} {d : Nat} {Q : (Nat → Nat → Int32) → (Nat → Int64) → Prop} {F : Nat → Nat → Int32} {G : Nat → Int64} (H : AMv D d nNight_clear [.ref 16] F G (fun F1 G1 => AWv D (d + 1) nNight_begin 11 [(0, .ref 16), (1, .ref 19), (2, .int 0)] [] (upS F1 103 1) G1 Q)) : AMv D (d + 1) nNight_begin [.ref 16, .ref 19] F G Q := by
  refine AM_intro (by decide) (Nat.le_of_ble_eq_true rfl) ?_
  intro X CX
  refine gw_aload_n CX.1 0 rfl dNight_begin_0 rfl ?_
  refine cl_Night_clear CX (Nat.le_of_ble_eq_true rfl) wm_Night_37 dNight_begin_1 H (fun F1 G1 H => ?_)
  refine gw_aload_n CX.1 0 rfl dNight_begin_4 rfl ?_
  refine gw_iconst (v := 1) CX.1 dNight_begin_5 (by decide) ?_
  refine gp_Night_19 CX.1 rfl (by decide) dNight_begin_6 ?_
  refine gw_iconst (v := 0) CX.1 dNight_begin_9 (by decide) ?_
  refine gw_istore_n CX.1 dNight_begin_10 rfl (by decide) rfl ?_
  exact gw_sub [1, 2, 0] rfl (H X CX)
theorem bNight_holdFrom_3 {D : va_G} {d : Nat} {Q : (Nat → Nat → Int32) → (Nat → Int64) → Prop} {F : Nat → Nat → Int32} {G : Nat → Int64} {x1 : Int32} {x2 : Int32} {x3 : Int32} {x4 : Int32} (H : ((30 ≤ x4 → Q F G) ∧ (¬ (30 ≤ x4) → AMi D d nShow_isTrack [.ref 2, .int x1] F G (fun x1_ F1 G1 => ((x1_ = 0 → AWv D (d + 1) nNight_holdFrom 3 [(0, .ref 16), (1, .int x1), (2, .int x2), (3, .int x3), (4, .int (x4 + 1))] [] F1 G1 Q) ∧ (¬ (x1_ = 0) → AMi D d nDesk_isCue [.int x4] F1 G1 (fun x2_ F2 G2 => ((x2_ = 0 → AWv D (d + 1) nNight_holdFrom 3 [(0, .ref 16), (1, .int x1), (2, .int x2), (3, .int x3), (4, .int (x4 + 1))] [] F2 G2 Q) ∧ (¬ (x2_ = 0) → vp_in ((x1 * 30) + x4) 240 ∧ AWv D (d + 1) nNight_holdFrom 3 [(0, .ref 16), (1, .int x1), (2, .int x2), (3, .int x3), (4, .int (x4 + 1))] [] (up F2 17 (((x1 * 30) + x4).toNatClampNeg) x3) G2 Q))))))))) : AWv D (d + 1) nNight_holdFrom 3 [(0, .ref 16), (1, .int x1), (2, .int x2), (3, .int x3), (4, .int x4)] [] F G Q := by
  intro X CX
  refine gw_iload CX.1 4 rfl dNight_holdFrom_3 ?_
  refine gw_bipush (v := 30) CX.1 dNight_holdFrom_5 (by decide) ?_
  refine gw_icmp_ge (tgt := 48) CX.1 dNight_holdFrom_7 (by decide) (fun c => ?_) (fun c => ?_)
  · replace H := H.1 c
    exact gw_vret CX rfl ⟨_, _, rfl, rfl, H⟩ (Nat.zero_le _) (Nat.zero_le _) dNight_holdFrom_48
  · replace H := H.2 c
    refine gw_aload_n CX.1 0 rfl dNight_holdFrom_10 rfl ?_
    refine gg_Night_9 CX.1 rfl dNight_holdFrom_11 ?_
    refine gw_iload_n CX.1 1 rfl dNight_holdFrom_14 rfl ?_
    refine cl_Show_isTrack CX (Nat.le_of_ble_eq_true rfl) wm_Night_56 dNight_holdFrom_15 H (fun x1_ F1 G1 H => ?_)
    refine gw_if_eq (tgt := 42) CX.1 dNight_holdFrom_18 (by decide) (fun c => ?_) (fun c => ?_)
    · replace H := H.1 c
      refine gw_iinc (v := (x4 + 1)) CX.1 4 rfl dNight_holdFrom_42 rfl (by decide) rfl ?_
      refine gw_goto (tgt := 3) CX.1 dNight_holdFrom_45 (by decide) ?_
      exact gw_sub [1, 2, 3, 4, 0] rfl (H X CX)
    · replace H := H.2 c
      refine gw_iload CX.1 4 rfl dNight_holdFrom_21 ?_
      refine cn_Desk_isCue CX (Nat.le_of_ble_eq_true rfl) wm_Night_60 dNight_holdFrom_23 H (fun x2_ F2 G2 H => ?_)
      refine gw_if_eq (tgt := 42) CX.1 dNight_holdFrom_26 (by decide) (fun c => ?_) (fun c => ?_)
      · replace H := H.1 c
        refine gw_iinc (v := (x4 + 1)) CX.1 4 rfl dNight_holdFrom_42 rfl (by decide) rfl ?_
        refine gw_goto (tgt := 3) CX.1 dNight_holdFrom_45 (by decide) ?_
        exact gw_sub [1, 2, 3, 4, 0] rfl (H X CX)
      · replace H := H.2 c
        refine gw_aload_n CX.1 0 rfl dNight_holdFrom_29 rfl ?_
        refine gg_Night_27 CX.1 rfl dNight_holdFrom_30 ?_
        refine gw_iload_n CX.1 1 rfl dNight_holdFrom_33 rfl ?_
        refine gw_bipush (v := 30) CX.1 dNight_holdFrom_34 (by decide) ?_
        refine gw_imul CX.1 dNight_holdFrom_36 ?_
        refine gw_iload CX.1 4 rfl dNight_holdFrom_37 ?_
        refine gw_iadd CX.1 dNight_holdFrom_39 ?_
        refine gw_iload_n CX.1 3 rfl dNight_holdFrom_40 rfl ?_
        obtain ⟨hin, H⟩ := H
        refine gs_17 CX.1 hin dNight_holdFrom_41 ?_
        refine gw_iinc (v := (x4 + 1)) CX.1 4 rfl dNight_holdFrom_42 rfl (by decide) rfl ?_
        refine gw_goto (tgt := 3) CX.1 dNight_holdFrom_45 (by decide) ?_
        exact gw_sub [1, 2, 3, 4, 0] rfl (H X CX)
theorem eNight_holdFrom {D : va_G} {d : Nat} {Q : (Nat → Nat → Int32) → (Nat → Int64) → Prop} {F : Nat → Nat → Int32} {G : Nat → Int64} {a0 : Int32} {a1 : Int32} {a2 : Int32} (H : AWv D (d + 1) nNight_holdFrom 3 [(0, .ref 16), (1, .int a0), (2, .int a1), (3, .int a2), (4, .int a1)] [] F G Q) : AMv D (d + 1) nNight_holdFrom [.ref 16, .int a0, .int a1, .int a2] F G Q := by
  refine AM_intro (by decide) (Nat.le_of_ble_eq_true rfl) ?_
  intro X CX
  refine gw_iload_n CX.1 2 rfl dNight_holdFrom_0 rfl ?_
  refine gw_istore CX.1 dNight_holdFrom_1 (by decide) rfl ?_
  exact gw_sub [1, 2, 3, 4, 0] rfl (H X CX)
theorem eNight_castAt {D : va_G} {d : Nat} {Q : Int32 → (Nat → Nat → Int32) → (Nat → Int64) → Prop} {F : Nat → Nat → Int32} {G : Nat → Int64} {a0 : Int32} (H : AMi D d nShow_isTrack [.ref 2, .int a0] F G (fun x1_ F1 G1 => ((x1_ = 0 → Q (-1000000005) F1 G1) ∧ (¬ (x1_ = 0) → vp_in a0 8 ∧ Q (F1 16 a0.toNatClampNeg) F1 G1)))) : AMi D (d + 1) nNight_castAt [.ref 16, .int a0] F G Q := by
  refine AM_intro (by decide) (Nat.le_of_ble_eq_true rfl) ?_
  intro X CX
  refine gw_aload_n CX.1 0 rfl dNight_castAt_0 rfl ?_
  refine gg_Night_9 CX.1 rfl dNight_castAt_1 ?_
  refine gw_iload_n CX.1 1 rfl dNight_castAt_4 rfl ?_
  refine cl_Show_isTrack CX (Nat.le_of_ble_eq_true rfl) wm_Night_56 dNight_castAt_5 H (fun x1_ F1 G1 H => ?_)
  refine gw_if_eq (tgt := 20) CX.1 dNight_castAt_8 (by decide) (fun c => ?_) (fun c => ?_)
  · replace H := H.1 c
    refine gw_ldc CX.1 wc_Night_30 dNight_castAt_20 ?_
    exact gw_iret CX rfl rfl ⟨_, _, _, rfl, rfl, H⟩ (Nat.zero_le _) (Nat.zero_le _) dNight_castAt_22
  · replace H := H.2 c
    refine gw_aload_n CX.1 0 rfl dNight_castAt_11 rfl ?_
    refine gg_Night_23 CX.1 rfl dNight_castAt_12 ?_
    refine gw_iload_n CX.1 1 rfl dNight_castAt_15 rfl ?_
    obtain ⟨hin, H⟩ := H
    refine ga_16 CX.1 hin dNight_castAt_16 ?_
    refine gw_goto (tgt := 22) CX.1 dNight_castAt_17 (by decide) ?_
    exact gw_iret CX rfl rfl ⟨_, _, _, rfl, rfl, H⟩ (Nat.zero_le _) (Nat.zero_le _) dNight_castAt_22
theorem eNight_hasCast {D : va_G} {d : Nat} {Q : Int32 → (Nat → Nat → Int32) → (Nat → Int64) → Prop} {F : Nat → Nat → Int32} {G : Nat → Int64} (H : narrow .boolean (.int (F 103 0)) = .int (F 103 0) ∧ Q (F 103 0) F G) : AMi D (d + 1) nNight_hasCast [.ref 16] F G Q := by
  refine AM_intro (by decide) (Nat.le_of_ble_eq_true rfl) ?_
  intro X CX
  refine gw_aload_n CX.1 0 rfl dNight_hasCast_0 rfl ?_
  refine gg_Night_19 CX.1 rfl dNight_hasCast_1 ?_
  obtain ⟨hn, H⟩ := H
  exact gw_iret CX rfl hn ⟨_, _, _, rfl, rfl, H⟩ (Nat.zero_le _) (Nat.zero_le _) dNight_hasCast_4
theorem bNight_holdersIn_4 {D : va_G} {d : Nat} {Q : Int32 → (Nat → Nat → Int32) → (Nat → Int64) → Prop} {F : Nat → Nat → Int32} {G : Nat → Int64} {x1 : Int32} {x2 : Int32} {x3 : Int32} (H : AMi D d nShow_tracks [.ref 2] F G (fun x1_ F1 G1 => ((x1_ ≤ x3 → Q x2 F1 G1) ∧ (¬ (x1_ ≤ x3) → AMi D d nNight_holderAt [.ref 16, .int x3, .int x1] F1 G1 (fun x2_ F2 G2 => AMi D d nShow_isIn [.ref 2, .int x3, .int x1] F2 G2 (fun x3_ F3 G3 => ((x3_ = 0 → AWi D (d + 1) nNight_holdersIn 4 [(0, .ref 16), (1, .int x1), (2, .int x2), (3, .int (x3 + 1))] [] F3 G3 Q) ∧ (¬ (x3_ = 0) → ((x2_ = (-1000000005) → AWi D (d + 1) nNight_holdersIn 4 [(0, .ref 16), (1, .int x1), (2, .int x2), (3, .int (x3 + 1))] [] F3 G3 Q) ∧ (¬ (x2_ = (-1000000005)) → AWi D (d + 1) nNight_holdersIn 4 [(0, .ref 16), (1, .int x1), (2, .int (x2 ||| (1 <<< (x2_ &&& 31)))), (3, .int (x3 + 1))] [] F3 G3 Q)))))))))) : AWi D (d + 1) nNight_holdersIn 4 [(0, .ref 16), (1, .int x1), (2, .int x2), (3, .int x3)] [] F G Q := by
  intro X CX
  refine gw_iload_n CX.1 3 rfl dNight_holdersIn_4 rfl ?_
  refine gw_aload_n CX.1 0 rfl dNight_holdersIn_5 rfl ?_
  refine gg_Night_9 CX.1 rfl dNight_holdersIn_6 ?_
  refine cl_Show_tracks CX (Nat.le_of_ble_eq_true rfl) wm_Night_40 dNight_holdersIn_9 H (fun x1_ F1 G1 H => ?_)
  refine gw_icmp_ge (tgt := 55) CX.1 dNight_holdersIn_12 (by decide) (fun c => ?_) (fun c => ?_)
  · replace H := H.1 c
    refine gw_iload_n CX.1 2 rfl dNight_holdersIn_55 rfl ?_
    exact gw_iret CX rfl rfl ⟨_, _, _, rfl, rfl, H⟩ (Nat.zero_le _) (Nat.zero_le _) dNight_holdersIn_56
  · replace H := H.2 c
    refine gw_aload_n CX.1 0 rfl dNight_holdersIn_15 rfl ?_
    refine gw_iload_n CX.1 3 rfl dNight_holdersIn_16 rfl ?_
    refine gw_iload_n CX.1 1 rfl dNight_holdersIn_17 rfl ?_
    refine cl_Night_holderAt CX (Nat.le_of_ble_eq_true rfl) wm_Night_63 dNight_holdersIn_18 H (fun x2_ F2 G2 H => ?_)
    refine gw_istore CX.1 dNight_holdersIn_21 (by decide) rfl ?_
    refine gw_aload_n CX.1 1 rfl dNight_holdersIn_23 rfl ?_
    refine gg_Night_9 CX.1 rfl dNight_holdersIn_24 ?_
    refine gw_iload_n CX.1 4 rfl dNight_holdersIn_27 rfl ?_
    refine gw_iload_n CX.1 2 rfl dNight_holdersIn_28 rfl ?_
    refine cl_Show_isIn CX (Nat.le_of_ble_eq_true rfl) wm_Night_67 dNight_holdersIn_29 H (fun x3_ F3 G3 H => ?_)
    refine gw_if_eq (tgt := 49) CX.1 dNight_holdersIn_32 (by decide) (fun c => ?_) (fun c => ?_)
    · replace H := H.1 c
      refine gw_iinc (v := (x3 + 1)) CX.1 4 rfl dNight_holdersIn_49 rfl (by decide) rfl ?_
      refine gw_goto (tgt := 4) CX.1 dNight_holdersIn_52 (by decide) ?_
      exact gw_sub [2, 3, 4, 0] rfl (H X CX)
    · replace H := H.2 c
      refine gw_iload CX.1 0 rfl dNight_holdersIn_35 ?_
      refine gw_ldc CX.1 wc_Night_30 dNight_holdersIn_37 ?_
      refine gw_icmp_eq (tgt := 49) CX.1 dNight_holdersIn_39 (by decide) (fun c => ?_) (fun c => ?_)
      · replace H := H.1 c
        refine gw_iinc (v := (x3 + 1)) CX.1 4 rfl dNight_holdersIn_49 rfl (by decide) rfl ?_
        refine gw_goto (tgt := 4) CX.1 dNight_holdersIn_52 (by decide) ?_
        exact gw_sub [2, 3, 4, 0] rfl (H X CX)
      · replace H := H.2 c
        refine gw_iload_n CX.1 3 rfl dNight_holdersIn_42 rfl ?_
        refine gw_iconst (v := 1) CX.1 dNight_holdersIn_43 (by decide) ?_
        refine gw_iload CX.1 0 rfl dNight_holdersIn_44 ?_
        refine gw_ishl CX.1 dNight_holdersIn_46 ?_
        refine gw_ior CX.1 dNight_holdersIn_47 ?_
        refine gw_istore_n CX.1 dNight_holdersIn_48 rfl (by decide) rfl ?_
        refine gw_iinc (v := (x3 + 1)) CX.1 4 rfl dNight_holdersIn_49 rfl (by decide) rfl ?_
        refine gw_goto (tgt := 4) CX.1 dNight_holdersIn_52 (by decide) ?_
        exact gw_sub [3, 4, 1, 0] rfl (H X CX)
theorem eNight_holdersIn {D : va_G} {d : Nat} {Q : Int32 → (Nat → Nat → Int32) → (Nat → Int64) → Prop} {F : Nat → Nat → Int32} {G : Nat → Int64} {a0 : Int32} (H : AWi D (d + 1) nNight_holdersIn 4 [(0, .ref 16), (1, .int a0), (2, .int 0), (3, .int 0)] [] F G Q) : AMi D (d + 1) nNight_holdersIn [.ref 16, .int a0] F G Q := by
  refine AM_intro (by decide) (Nat.le_of_ble_eq_true rfl) ?_
  intro X CX
  refine gw_iconst (v := 0) CX.1 dNight_holdersIn_0 (by decide) ?_
  refine gw_istore_n CX.1 dNight_holdersIn_1 rfl (by decide) rfl ?_
  refine gw_iconst (v := 0) CX.1 dNight_holdersIn_2 (by decide) ?_
  refine gw_istore_n CX.1 dNight_holdersIn_3 rfl (by decide) rfl ?_
  exact gw_sub [2, 3, 1, 0] rfl (H X CX)
theorem eNight_holderAt {D : va_G} {d : Nat} {Q : Int32 → (Nat → Nat → Int32) → (Nat → Int64) → Prop} {F : Nat → Nat → Int32} {G : Nat → Int64} {a0 : Int32} {a1 : Int32} (H : AMi D d nShow_isTrack [.ref 2, .int a0] F G (fun x1_ F1 G1 => ((x1_ = 0 → Q (-1000000005) F1 G1) ∧ (¬ (x1_ = 0) → AMi D d nDesk_isCue [.int a1] F1 G1 (fun x2_ F2 G2 => ((x2_ = 0 → Q (-1000000005) F2 G2) ∧ (¬ (x2_ = 0) → vp_in ((a0 * 30) + a1) 240 ∧ Q (F2 17 ((a0 * 30) + a1).toNatClampNeg) F2 G2))))))) : AMi D (d + 1) nNight_holderAt [.ref 16, .int a0, .int a1] F G Q := by
  refine AM_intro (by decide) (Nat.le_of_ble_eq_true rfl) ?_
  intro X CX
  refine gw_aload_n CX.1 0 rfl dNight_holderAt_0 rfl ?_
  refine gg_Night_9 CX.1 rfl dNight_holderAt_1 ?_
  refine gw_iload_n CX.1 1 rfl dNight_holderAt_4 rfl ?_
  refine cl_Show_isTrack CX (Nat.le_of_ble_eq_true rfl) wm_Night_56 dNight_holderAt_5 H (fun x1_ F1 G1 H => ?_)
  refine gw_if_eq (tgt := 32) CX.1 dNight_holderAt_8 (by decide) (fun c => ?_) (fun c => ?_)
  · replace H := H.1 c
    refine gw_ldc CX.1 wc_Night_30 dNight_holderAt_32 ?_
    exact gw_iret CX rfl rfl ⟨_, _, _, rfl, rfl, H⟩ (Nat.zero_le _) (Nat.zero_le _) dNight_holderAt_34
  · replace H := H.2 c
    refine gw_iload_n CX.1 2 rfl dNight_holderAt_11 rfl ?_
    refine cn_Desk_isCue CX (Nat.le_of_ble_eq_true rfl) wm_Night_60 dNight_holderAt_12 H (fun x2_ F2 G2 H => ?_)
    refine gw_if_eq (tgt := 32) CX.1 dNight_holderAt_15 (by decide) (fun c => ?_) (fun c => ?_)
    · replace H := H.1 c
      refine gw_ldc CX.1 wc_Night_30 dNight_holderAt_32 ?_
      exact gw_iret CX rfl rfl ⟨_, _, _, rfl, rfl, H⟩ (Nat.zero_le _) (Nat.zero_le _) dNight_holderAt_34
    · replace H := H.2 c
      refine gw_aload_n CX.1 0 rfl dNight_holderAt_18 rfl ?_
      refine gg_Night_27 CX.1 rfl dNight_holderAt_19 ?_
      refine gw_iload_n CX.1 1 rfl dNight_holderAt_22 rfl ?_
      refine gw_bipush (v := 30) CX.1 dNight_holderAt_23 (by decide) ?_
      refine gw_imul CX.1 dNight_holderAt_25 ?_
      refine gw_iload_n CX.1 2 rfl dNight_holderAt_26 rfl ?_
      refine gw_iadd CX.1 dNight_holderAt_27 ?_
      obtain ⟨hin, H⟩ := H
      refine ga_17 CX.1 hin dNight_holderAt_28 ?_
      refine gw_goto (tgt := 34) CX.1 dNight_holderAt_29 (by decide) ?_
      exact gw_iret CX rfl rfl ⟨_, _, _, rfl, rfl, H⟩ (Nat.zero_le _) (Nat.zero_le _) dNight_holderAt_34
theorem eNight_isLiftDone {D : va_G} {d : Nat} {Q : Int32 → (Nat → Nat → Int32) → (Nat → Int64) → Prop} {F : Nat → Nat → Int32} {G : Nat → Int64} {a0 : Int32} (H : AMi D d nShow_lifterIn [.ref 2, .int a0] F G (fun x1_ F1 G1 => AMi D d nShow_liftedIn [.ref 2, .int a0] F1 G1 (fun x2_ F2 G2 => AMi D d nNight_castAt [.ref 16, .int x1_] F2 G2 (fun x3_ F3 G3 => AMi D d nNight_castAt [.ref 16, .int x2_] F3 G3 (fun x4_ F4 G4 => AMi D d nCompany_doLift [.ref 8, .int x3_, .int x1_, .int x4_, .int x2_] F4 G4 (fun x5_ F5 G5 => narrow .boolean (.int x5_) = .int x5_ ∧ Q x5_ F5 G5)))))) : AMi D (d + 1) nNight_isLiftDone [.ref 16, .int a0] F G Q := by
  refine AM_intro (by decide) (Nat.le_of_ble_eq_true rfl) ?_
  intro X CX
  refine gw_aload_n CX.1 0 rfl dNight_isLiftDone_0 rfl ?_
  refine gg_Night_9 CX.1 rfl dNight_isLiftDone_1 ?_
  refine gw_iload_n CX.1 1 rfl dNight_isLiftDone_4 rfl ?_
  refine cl_Show_lifterIn CX (Nat.le_of_ble_eq_true rfl) wm_Night_71 dNight_isLiftDone_5 H (fun x1_ F1 G1 H => ?_)
  refine gw_istore_n CX.1 dNight_isLiftDone_8 rfl (by decide) rfl ?_
  refine gw_aload_n CX.1 1 rfl dNight_isLiftDone_9 rfl ?_
  refine gg_Night_9 CX.1 rfl dNight_isLiftDone_10 ?_
  refine gw_iload_n CX.1 2 rfl dNight_isLiftDone_13 rfl ?_
  refine cl_Show_liftedIn CX (Nat.le_of_ble_eq_true rfl) wm_Night_74 dNight_isLiftDone_14 H (fun x2_ F2 G2 H => ?_)
  refine gw_istore_n CX.1 dNight_isLiftDone_17 rfl (by decide) rfl ?_
  refine gw_aload_n CX.1 2 rfl dNight_isLiftDone_18 rfl ?_
  refine gg_Night_15 CX.1 rfl dNight_isLiftDone_19 ?_
  refine gw_aload_n CX.1 2 rfl dNight_isLiftDone_22 rfl ?_
  refine gw_iload_n CX.1 1 rfl dNight_isLiftDone_23 rfl ?_
  refine cl_Night_castAt CX (Nat.le_of_ble_eq_true rfl) wm_Night_77 dNight_isLiftDone_24 H (fun x3_ F3 G3 H => ?_)
  refine gw_iload_n CX.1 1 rfl dNight_isLiftDone_27 rfl ?_
  refine gw_aload_n CX.1 2 rfl dNight_isLiftDone_28 rfl ?_
  refine gw_iload_n CX.1 0 rfl dNight_isLiftDone_29 rfl ?_
  refine cl_Night_castAt CX (Nat.le_of_ble_eq_true rfl) wm_Night_77 dNight_isLiftDone_30 H (fun x4_ F4 G4 H => ?_)
  refine gw_iload_n CX.1 0 rfl dNight_isLiftDone_33 rfl ?_
  refine cl_Company_doLift CX (Nat.le_of_ble_eq_true rfl) wm_Night_80 dNight_isLiftDone_34 H (fun x5_ F5 G5 H => ?_)
  obtain ⟨hn, H⟩ := H
  exact gw_iret CX rfl hn ⟨_, _, _, rfl, rfl, H⟩ (Nat.zero_le _) (Nat.zero_le _) dNight_isLiftDone_37
theorem bNight_replace_5 {D : va_G} {d : Nat} {Q : Int32 → (Nat → Nat → Int32) → (Nat → Int64) → Prop} {F : Nat → Nat → Int32} {G : Nat → Int64} {x1 : Int32} {x2 : Int32} {x3 : Int32} {x4 : Int32} (H : AMi D d nShow_tracks [.ref 2] F G (fun x1_ F1 G1 => ((x1_ ≤ x4 → Q x3 F1 G1) ∧ (¬ (x1_ ≤ x4) → AMi D d nNight_firstHeld [.ref 16, .int x4, .int x1, .int x2] F1 G1 (fun x2_ F2 G2 => ((x2_ = (-1000000005) → AWi D (d + 1) nNight_replace 5 [(0, .ref 16), (1, .int x1), (2, .int x2), (3, .int x3), (4, .int (x4 + 1))] [] F2 G2 Q) ∧ (¬ (x2_ = (-1000000005)) → AMi D d nNight_handOn [.ref 16, .int x4, .int x2_] F2 G2 (fun x3_ F3 G3 => ((x3_ = 0 → AWi D (d + 1) nNight_replace 5 [(0, .ref 16), (1, .int x1), (2, .int x2), (3, .int (x3 + 0)), (4, .int (x4 + 1))] [] F3 G3 Q) ∧ (¬ (x3_ = 0) → AWi D (d + 1) nNight_replace 5 [(0, .ref 16), (1, .int x1), (2, .int x2), (3, .int (x3 + 1)), (4, .int (x4 + 1))] [] F3 G3 Q)))))))))) : AWi D (d + 1) nNight_replace 5 [(0, .ref 16), (1, .int x1), (2, .int x2), (3, .int x3), (4, .int x4)] [] F G Q := by
  intro X CX
  refine gw_iload CX.1 4 rfl dNight_replace_5 ?_
  refine gw_aload_n CX.1 0 rfl dNight_replace_7 rfl ?_
  refine gg_Night_9 CX.1 rfl dNight_replace_8 ?_
  refine cl_Show_tracks CX (Nat.le_of_ble_eq_true rfl) wm_Night_40 dNight_replace_11 H (fun x1_ F1 G1 H => ?_)
  refine gw_icmp_ge (tgt := 59) CX.1 dNight_replace_14 (by decide) (fun c => ?_) (fun c => ?_)
  · replace H := H.1 c
    refine gw_iload_n CX.1 3 rfl dNight_replace_59 rfl ?_
    exact gw_iret CX rfl rfl ⟨_, _, _, rfl, rfl, H⟩ (Nat.zero_le _) (Nat.zero_le _) dNight_replace_60
  · replace H := H.2 c
    refine gw_aload_n CX.1 0 rfl dNight_replace_17 rfl ?_
    refine gw_iload CX.1 4 rfl dNight_replace_18 ?_
    refine gw_iload_n CX.1 1 rfl dNight_replace_20 rfl ?_
    refine gw_iload_n CX.1 2 rfl dNight_replace_21 rfl ?_
    refine cl_Night_firstHeld CX (Nat.le_of_ble_eq_true rfl) wm_Night_86 dNight_replace_22 H (fun x2_ F2 G2 H => ?_)
    refine gw_istore CX.1 dNight_replace_25 (by decide) rfl ?_
    refine gw_iload CX.1 0 rfl dNight_replace_27 ?_
    refine gw_ldc CX.1 wc_Night_30 dNight_replace_29 ?_
    refine gw_icmp_eq (tgt := 53) CX.1 dNight_replace_31 (by decide) (fun c => ?_) (fun c => ?_)
    · replace H := H.1 c
      refine gw_iinc (v := (x4 + 1)) CX.1 5 rfl dNight_replace_53 rfl (by decide) rfl ?_
      refine gw_goto (tgt := 5) CX.1 dNight_replace_56 (by decide) ?_
      exact gw_sub [2, 3, 4, 5, 0] rfl (H X CX)
    · replace H := H.2 c
      refine gw_iload_n CX.1 4 rfl dNight_replace_34 rfl ?_
      refine gw_aload_n CX.1 1 rfl dNight_replace_35 rfl ?_
      refine gw_iload CX.1 5 rfl dNight_replace_36 ?_
      refine gw_iload CX.1 0 rfl dNight_replace_38 ?_
      refine cl_Night_handOn CX (Nat.le_of_ble_eq_true rfl) wm_Night_90 dNight_replace_40 H (fun x3_ F3 G3 H => ?_)
      refine gw_if_eq (tgt := 50) CX.1 dNight_replace_43 (by decide) (fun c => ?_) (fun c => ?_)
      · replace H := H.1 c
        refine gw_iconst (v := 0) CX.1 dNight_replace_50 (by decide) ?_
        refine gw_iadd CX.1 dNight_replace_51 ?_
        refine gw_istore_n CX.1 dNight_replace_52 rfl (by decide) rfl ?_
        refine gw_iinc (v := (x4 + 1)) CX.1 5 rfl dNight_replace_53 rfl (by decide) rfl ?_
        refine gw_goto (tgt := 5) CX.1 dNight_replace_56 (by decide) ?_
        exact gw_sub [3, 4, 5, 1, 0] rfl (H X CX)
      · replace H := H.2 c
        refine gw_iconst (v := 1) CX.1 dNight_replace_46 (by decide) ?_
        refine gw_goto (tgt := 51) CX.1 dNight_replace_47 (by decide) ?_
        refine gw_iadd CX.1 dNight_replace_51 ?_
        refine gw_istore_n CX.1 dNight_replace_52 rfl (by decide) rfl ?_
        refine gw_iinc (v := (x4 + 1)) CX.1 5 rfl dNight_replace_53 rfl (by decide) rfl ?_
        refine gw_goto (tgt := 5) CX.1 dNight_replace_56 (by decide) ?_
        exact gw_sub [3, 4, 5, 1, 0] rfl (H X CX)
theorem eNight_replace {D : va_G} {d : Nat} {Q : Int32 → (Nat → Nat → Int32) → (Nat → Int64) → Prop} {F : Nat → Nat → Int32} {G : Nat → Int64} {a0 : Int32} {a1 : Int32} (H : AWi D (d + 1) nNight_replace 5 [(0, .ref 16), (1, .int a0), (2, .int a1), (3, .int 0), (4, .int 0)] [] F G Q) : AMi D (d + 1) nNight_replace [.ref 16, .int a0, .int a1] F G Q := by
  refine AM_intro (by decide) (Nat.le_of_ble_eq_true rfl) ?_
  intro X CX
  refine gw_iconst (v := 0) CX.1 dNight_replace_0 (by decide) ?_
  refine gw_istore_n CX.1 dNight_replace_1 rfl (by decide) rfl ?_
  refine gw_iconst (v := 0) CX.1 dNight_replace_2 (by decide) ?_
  refine gw_istore CX.1 dNight_replace_3 (by decide) rfl ?_
  exact gw_sub [2, 3, 4, 1, 0] rfl (H X CX)
theorem bNight_firstHeld_3 {D : va_G} {d : Nat} {Q : Int32 → (Nat → Nat → Int32) → (Nat → Int64) → Prop} {F : Nat → Nat → Int32} {G : Nat → Int64} {x1 : Int32} {x2 : Int32} {x3 : Int32} {x4 : Int32} (H : ((30 ≤ x4 → Q (-1000000005) F G) ∧ (¬ (30 ≤ x4) → AMi D d nNight_holderAt [.ref 16, .int x1, .int x4] F G (fun x1_ F1 G1 => ((¬ x1_ = x2 → AWi D (d + 1) nNight_firstHeld 3 [(0, .ref 16), (1, .int x1), (2, .int x2), (3, .int x3), (4, .int (x4 + 1))] [] F1 G1 Q) ∧ (x1_ = x2 → Q x4 F1 G1)))))) : AWi D (d + 1) nNight_firstHeld 3 [(0, .ref 16), (1, .int x1), (2, .int x2), (3, .int x3), (4, .int x4)] [] F G Q := by
  intro X CX
  refine gw_iload CX.1 4 rfl dNight_firstHeld_3 ?_
  refine gw_bipush (v := 30) CX.1 dNight_firstHeld_5 (by decide) ?_
  refine gw_icmp_ge (tgt := 30) CX.1 dNight_firstHeld_7 (by decide) (fun c => ?_) (fun c => ?_)
  · replace H := H.1 c
    refine gw_ldc CX.1 wc_Night_30 dNight_firstHeld_30 ?_
    exact gw_iret CX rfl rfl ⟨_, _, _, rfl, rfl, H⟩ (Nat.zero_le _) (Nat.zero_le _) dNight_firstHeld_32
  · replace H := H.2 c
    refine gw_aload_n CX.1 0 rfl dNight_firstHeld_10 rfl ?_
    refine gw_iload_n CX.1 1 rfl dNight_firstHeld_11 rfl ?_
    refine gw_iload CX.1 4 rfl dNight_firstHeld_12 ?_
    refine cl_Night_holderAt CX (Nat.le_of_ble_eq_true rfl) wm_Night_63 dNight_firstHeld_14 H (fun x1_ F1 G1 H => ?_)
    refine gw_iload_n CX.1 2 rfl dNight_firstHeld_17 rfl ?_
    refine gw_icmp_ne (tgt := 24) CX.1 dNight_firstHeld_18 (by decide) (fun c => ?_) (fun c => ?_)
    · replace H := H.1 c
      refine gw_iinc (v := (x4 + 1)) CX.1 4 rfl dNight_firstHeld_24 rfl (by decide) rfl ?_
      refine gw_goto (tgt := 3) CX.1 dNight_firstHeld_27 (by decide) ?_
      exact gw_sub [1, 2, 3, 4, 0] rfl (H X CX)
    · replace H := H.2 c
      refine gw_iload CX.1 4 rfl dNight_firstHeld_21 ?_
      exact gw_iret CX rfl rfl ⟨_, _, _, rfl, rfl, H⟩ (Nat.zero_le _) (Nat.zero_le _) dNight_firstHeld_23
theorem eNight_firstHeld {D : va_G} {d : Nat} {Q : Int32 → (Nat → Nat → Int32) → (Nat → Int64) → Prop} {F : Nat → Nat → Int32} {G : Nat → Int64} {a0 : Int32} {a1 : Int32} {a2 : Int32} (H : AWi D (d + 1) nNight_firstHeld 3 [(0, .ref 16), (1, .int a0), (2, .int a1), (3, .int a2), (4, .int a2)] [] F G Q) : AMi D (d + 1) nNight_firstHeld [.ref 16, .int a0, .int a1, .int a2] F G Q := by
  refine AM_intro (by decide) (Nat.le_of_ble_eq_true rfl) ?_
  intro X CX
  refine gw_iload_n CX.1 3 rfl dNight_firstHeld_0 rfl ?_
  refine gw_istore CX.1 dNight_firstHeld_1 (by decide) rfl ?_
  exact gw_sub [1, 2, 3, 4, 0] rfl (H X CX)
theorem bNight_handOn_32 {D : va_G} {d : Nat} {Q : Int32 → (Nat → Nat → Int32) → (Nat → Int64) → Prop} {F : Nat → Nat → Int32} {G : Nat → Int64} {x1 : Int32} {x2 : Int32} {x3 : Int32} {x4 : Int32} (H : AMi D d nCompany_people [.ref 8] F G (fun x1_ F1 G1 => ((x1_ ≤ x4 → Q 0 F1 G1) ∧ (¬ (x1_ ≤ x4) → AMi D d nCompany_isOut [.ref 8, .int x4] F1 G1 (fun x2_ F2 G2 => ((¬ x2_ = 0 → AWi D (d + 1) nNight_handOn 69 [(0, .ref 16), (1, .int x1), (2, .int x2), (3, .int x3), (4, .int x4)] [] F2 G2 Q) ∧ (x2_ = 0 → ((¬ ((x3 >>> (x4 &&& 31)) &&& 1) = 0 → AWi D (d + 1) nNight_handOn 69 [(0, .ref 16), (1, .int x1), (2, .int x2), (3, .int x3), (4, .int x4)] [] F2 G2 Q) ∧ (((x3 >>> (x4 &&& 31)) &&& 1) = 0 → AWi D (d + 1) nNight_handOn 70 [(0, .ref 16), (1, .int x1), (2, .int x2), (3, .int x3), (4, .int x4)] [.int 1] F2 G2 Q))))))))) : AWi D (d + 1) nNight_handOn 32 [(0, .ref 16), (1, .int x1), (2, .int x2), (3, .int x3), (4, .int x4)] [] F G Q := by
  intro X CX
  refine gw_iload CX.1 4 rfl dNight_handOn_32 ?_
  refine gw_aload_n CX.1 0 rfl dNight_handOn_34 rfl ?_
  refine gg_Night_15 CX.1 rfl dNight_handOn_35 ?_
  refine cl_Company_people CX (Nat.le_of_ble_eq_true rfl) wm_Night_99 dNight_handOn_38 H (fun x1_ F1 G1 H => ?_)
  refine gw_icmp_ge (tgt := 114) CX.1 dNight_handOn_41 (by decide) (fun c => ?_) (fun c => ?_)
  · replace H := H.1 c
    refine gw_iconst (v := 0) CX.1 dNight_handOn_114 (by decide) ?_
    exact gw_iret CX rfl (by decide) ⟨_, _, _, rfl, rfl, H⟩ (Nat.zero_le _) (Nat.zero_le _) dNight_handOn_115
  · replace H := H.2 c
    refine gw_aload_n CX.1 0 rfl dNight_handOn_44 rfl ?_
    refine gg_Night_15 CX.1 rfl dNight_handOn_45 ?_
    refine gw_iload CX.1 4 rfl dNight_handOn_48 ?_
    refine cl_Company_isOut CX (Nat.le_of_ble_eq_true rfl) wm_Night_102 dNight_handOn_50 H (fun x2_ F2 G2 H => ?_)
    refine gw_if_ne (tgt := 69) CX.1 dNight_handOn_53 (by decide) (fun c => ?_) (fun c => ?_)
    · replace H := H.1 c
      exact H X CX
    · replace H := H.2 c
      refine gw_iload_n CX.1 3 rfl dNight_handOn_56 rfl ?_
      refine gw_iload CX.1 4 rfl dNight_handOn_57 ?_
      refine gw_ishr CX.1 dNight_handOn_59 ?_
      refine gw_iconst (v := 1) CX.1 dNight_handOn_60 (by decide) ?_
      refine gw_iand CX.1 dNight_handOn_61 ?_
      refine gw_if_ne (tgt := 69) CX.1 dNight_handOn_62 (by decide) (fun c => ?_) (fun c => ?_)
      · replace H := H.1 c
        exact H X CX
      · replace H := H.2 c
        refine gw_iconst (v := 1) CX.1 dNight_handOn_65 (by decide) ?_
        refine gw_goto (tgt := 70) CX.1 dNight_handOn_66 (by decide) ?_
        exact H X CX
theorem bNight_handOn_69 {D : va_G} {d : Nat} {Q : Int32 → (Nat → Nat → Int32) → (Nat → Int64) → Prop} {F : Nat → Nat → Int32} {G : Nat → Int64} {x1 : Int32} {x2 : Int32} {x3 : Int32} {x4 : Int32} (H : AWi D (d + 1) nNight_handOn 70 [(0, .ref 16), (1, .int x1), (2, .int x2), (3, .int x3), (4, .int x4)] [.int 0] F G Q) : AWi D (d + 1) nNight_handOn 69 [(0, .ref 16), (1, .int x1), (2, .int x2), (3, .int x3), (4, .int x4)] [] F G Q := by
  intro X CX
  refine gw_iconst (v := 0) CX.1 dNight_handOn_69 (by decide) ?_
  exact H X CX
theorem bNight_handOn_70 {D : va_G} {d : Nat} {Q : Int32 → (Nat → Nat → Int32) → (Nat → Int64) → Prop} {F : Nat → Nat → Int32} {G : Nat → Int64} {x1 : Int32} {x2 : Int32} {x3 : Int32} {x4 : Int32} {s0 : Int32} (H : ((s0 = 0 → AWi D (d + 1) nNight_handOn 32 [(0, .ref 16), (1, .int x1), (2, .int x2), (3, .int x3), (4, .int (x4 + 1))] [] F G Q) ∧ (¬ (s0 = 0) → AMi D d nShow_dressOf [.ref 2, .int x1] F G (fun x1_ F1 G1 => AMi D d nCompany_canPlay [.ref 8, .int x4, .int x1, .int x1_] F1 G1 (fun x2_ F2 G2 => ((x2_ = 0 → AWi D (d + 1) nNight_handOn 32 [(0, .ref 16), (1, .int x1), (2, .int x2), (3, .int x3), (4, .int (x4 + 1))] [] F2 G2 Q) ∧ (¬ (x2_ = 0) → AMv D d nNight_holdFrom [.ref 16, .int x1, .int x2, .int x4] F2 G2 (fun F3 G3 => Q 1 F3 G3)))))))) : AWi D (d + 1) nNight_handOn 70 [(0, .ref 16), (1, .int x1), (2, .int x2), (3, .int x3), (4, .int x4)] [.int s0] F G Q := by
  intro X CX
  refine gw_istore CX.1 dNight_handOn_70 (by decide) rfl ?_
  refine gw_iload CX.1 0 rfl dNight_handOn_72 ?_
  refine gw_if_eq (tgt := 108) CX.1 dNight_handOn_74 (by decide) (fun c => ?_) (fun c => ?_)
  · replace H := H.1 c
    refine gw_iinc (v := (x4 + 1)) CX.1 5 rfl dNight_handOn_108 rfl (by decide) rfl ?_
    refine gw_goto (tgt := 32) CX.1 dNight_handOn_111 (by decide) ?_
    exact gw_sub [2, 3, 4, 5, 0] rfl (H X CX)
  · replace H := H.2 c
    refine gw_aload_n CX.1 1 rfl dNight_handOn_77 rfl ?_
    refine gg_Night_15 CX.1 rfl dNight_handOn_78 ?_
    refine gw_iload CX.1 5 rfl dNight_handOn_81 ?_
    refine gw_iload_n CX.1 2 rfl dNight_handOn_83 rfl ?_
    refine gw_aload_n CX.1 1 rfl dNight_handOn_84 rfl ?_
    refine gg_Night_9 CX.1 rfl dNight_handOn_85 ?_
    refine gw_iload_n CX.1 2 rfl dNight_handOn_88 rfl ?_
    refine cl_Show_dressOf CX (Nat.le_of_ble_eq_true rfl) wm_Night_105 dNight_handOn_89 H (fun x1_ F1 G1 H => ?_)
    refine cl_Company_canPlay CX (Nat.le_of_ble_eq_true rfl) wm_Night_108 dNight_handOn_92 H (fun x2_ F2 G2 H => ?_)
    refine gw_if_eq (tgt := 108) CX.1 dNight_handOn_95 (by decide) (fun c => ?_) (fun c => ?_)
    · replace H := H.1 c
      refine gw_iinc (v := (x4 + 1)) CX.1 5 rfl dNight_handOn_108 rfl (by decide) rfl ?_
      refine gw_goto (tgt := 32) CX.1 dNight_handOn_111 (by decide) ?_
      exact gw_sub [2, 3, 4, 5, 0] rfl (H X CX)
    · replace H := H.2 c
      refine gw_aload_n CX.1 1 rfl dNight_handOn_98 rfl ?_
      refine gw_iload_n CX.1 2 rfl dNight_handOn_99 rfl ?_
      refine gw_iload_n CX.1 3 rfl dNight_handOn_100 rfl ?_
      refine gw_iload CX.1 5 rfl dNight_handOn_101 ?_
      refine cl_Night_holdFrom CX (Nat.le_of_ble_eq_true rfl) wm_Night_52 dNight_handOn_103 H (fun F3 G3 H => ?_)
      refine gw_iconst (v := 1) CX.1 dNight_handOn_106 (by decide) ?_
      exact gw_iret CX rfl (by decide) ⟨_, _, _, rfl, rfl, H⟩ (Nat.zero_le _) (Nat.zero_le _) dNight_handOn_107
theorem eNight_handOn {D : va_G} {d : Nat} {Q : Int32 → (Nat → Nat → Int32) → (Nat → Int64) → Prop} {F : Nat → Nat → Int32} {G : Nat → Int64} {a0 : Int32} {a1 : Int32} (H : AMv D d nNight_holdFrom [.ref 16, .int a0, .int a1, .int (-1000000005)] F G (fun F1 G1 => AMi D d nShow_lastCue [.ref 2, .int a0] F1 G1 (fun x2_ F2 G2 => ((a1 ≤ x2_ → AMi D d nNight_busyFrom [.ref 16, .int a0, .int a1] F2 G2 (fun x3_ F3 G3 => AWi D (d + 1) nNight_handOn 32 [(0, .ref 16), (1, .int a0), (2, .int a1), (3, .int x3_), (4, .int 0)] [] F3 G3 Q)) ∧ (¬ (a1 ≤ x2_) → Q 0 F2 G2))))) : AMi D (d + 1) nNight_handOn [.ref 16, .int a0, .int a1] F G Q := by
  refine AM_intro (by decide) (Nat.le_of_ble_eq_true rfl) ?_
  intro X CX
  refine gw_aload_n CX.1 0 rfl dNight_handOn_0 rfl ?_
  refine gw_iload_n CX.1 1 rfl dNight_handOn_1 rfl ?_
  refine gw_iload_n CX.1 2 rfl dNight_handOn_2 rfl ?_
  refine gw_ldc CX.1 wc_Night_30 dNight_handOn_3 ?_
  refine cl_Night_holdFrom CX (Nat.le_of_ble_eq_true rfl) wm_Night_52 dNight_handOn_5 H (fun F1 G1 H => ?_)
  refine gw_aload_n CX.1 0 rfl dNight_handOn_8 rfl ?_
  refine gg_Night_9 CX.1 rfl dNight_handOn_9 ?_
  refine gw_iload_n CX.1 1 rfl dNight_handOn_12 rfl ?_
  refine cl_Show_lastCue CX (Nat.le_of_ble_eq_true rfl) wm_Night_93 dNight_handOn_13 H (fun x2_ F2 G2 H => ?_)
  refine gw_iload_n CX.1 2 rfl dNight_handOn_16 rfl ?_
  refine gw_icmp_ge (tgt := 22) CX.1 dNight_handOn_17 (by decide) (fun c => ?_) (fun c => ?_)
  · replace H := H.1 c
    refine gw_aload_n CX.1 0 rfl dNight_handOn_22 rfl ?_
    refine gw_iload_n CX.1 1 rfl dNight_handOn_23 rfl ?_
    refine gw_iload_n CX.1 2 rfl dNight_handOn_24 rfl ?_
    refine cl_Night_busyFrom CX (Nat.le_of_ble_eq_true rfl) wm_Night_96 dNight_handOn_25 H (fun x3_ F3 G3 H => ?_)
    refine gw_istore_n CX.1 dNight_handOn_28 rfl (by decide) rfl ?_
    refine gw_iconst (v := 0) CX.1 dNight_handOn_29 (by decide) ?_
    refine gw_istore CX.1 dNight_handOn_30 (by decide) rfl ?_
    exact gw_sub [2, 3, 4, 1, 0] rfl (H X CX)
  · replace H := H.2 c
    refine gw_iconst (v := 0) CX.1 dNight_handOn_20 (by decide) ?_
    exact gw_iret CX rfl (by decide) ⟨_, _, _, rfl, rfl, H⟩ (Nat.zero_le _) (Nat.zero_le _) dNight_handOn_21
theorem bNight_busyFrom_5 {D : va_G} {d : Nat} {Q : Int32 → (Nat → Nat → Int32) → (Nat → Int64) → Prop} {F : Nat → Nat → Int32} {G : Nat → Int64} {x1 : Int32} {x2 : Int32} {x3 : Int32} {x4 : Int32} (H : ((30 ≤ x4 → Q x3 F G) ∧ (¬ (30 ≤ x4) → AMi D d nShow_isIn [.ref 2, .int x1, .int x4] F G (fun x1_ F1 G1 => ((x1_ = 0 → AWi D (d + 1) nNight_busyFrom 5 [(0, .ref 16), (1, .int x1), (2, .int x2), (3, .int (x3 ||| 0)), (4, .int (x4 + 1))] [] F1 G1 Q) ∧ (¬ (x1_ = 0) → AMi D d nNight_holdersIn [.ref 16, .int x4] F1 G1 (fun x2_ F2 G2 => AWi D (d + 1) nNight_busyFrom 5 [(0, .ref 16), (1, .int x1), (2, .int x2), (3, .int (x3 ||| x2_)), (4, .int (x4 + 1))] [] F2 G2 Q))))))) : AWi D (d + 1) nNight_busyFrom 5 [(0, .ref 16), (1, .int x1), (2, .int x2), (3, .int x3), (4, .int x4)] [] F G Q := by
  intro X CX
  refine gw_iload CX.1 4 rfl dNight_busyFrom_5 ?_
  refine gw_bipush (v := 30) CX.1 dNight_busyFrom_7 (by decide) ?_
  refine gw_icmp_ge (tgt := 44) CX.1 dNight_busyFrom_9 (by decide) (fun c => ?_) (fun c => ?_)
  · replace H := H.1 c
    refine gw_iload_n CX.1 3 rfl dNight_busyFrom_44 rfl ?_
    exact gw_iret CX rfl rfl ⟨_, _, _, rfl, rfl, H⟩ (Nat.zero_le _) (Nat.zero_le _) dNight_busyFrom_45
  · replace H := H.2 c
    refine gw_iload_n CX.1 3 rfl dNight_busyFrom_12 rfl ?_
    refine gw_aload_n CX.1 0 rfl dNight_busyFrom_13 rfl ?_
    refine gg_Night_9 CX.1 rfl dNight_busyFrom_14 ?_
    refine gw_iload_n CX.1 1 rfl dNight_busyFrom_17 rfl ?_
    refine gw_iload CX.1 4 rfl dNight_busyFrom_18 ?_
    refine cl_Show_isIn CX (Nat.le_of_ble_eq_true rfl) wm_Night_67 dNight_busyFrom_20 H (fun x1_ F1 G1 H => ?_)
    refine gw_if_eq (tgt := 35) CX.1 dNight_busyFrom_23 (by decide) (fun c => ?_) (fun c => ?_)
    · replace H := H.1 c
      refine gw_iconst (v := 0) CX.1 dNight_busyFrom_35 (by decide) ?_
      refine gw_ior CX.1 dNight_busyFrom_36 ?_
      refine gw_istore_n CX.1 dNight_busyFrom_37 rfl (by decide) rfl ?_
      refine gw_iinc (v := (x4 + 1)) CX.1 4 rfl dNight_busyFrom_38 rfl (by decide) rfl ?_
      refine gw_goto (tgt := 5) CX.1 dNight_busyFrom_41 (by decide) ?_
      exact gw_sub [2, 3, 4, 1, 0] rfl (H X CX)
    · replace H := H.2 c
      refine gw_aload_n CX.1 0 rfl dNight_busyFrom_26 rfl ?_
      refine gw_iload CX.1 4 rfl dNight_busyFrom_27 ?_
      refine cl_Night_holdersIn CX (Nat.le_of_ble_eq_true rfl) wm_Night_112 dNight_busyFrom_29 H (fun x2_ F2 G2 H => ?_)
      refine gw_goto (tgt := 36) CX.1 dNight_busyFrom_32 (by decide) ?_
      refine gw_ior CX.1 dNight_busyFrom_36 ?_
      refine gw_istore_n CX.1 dNight_busyFrom_37 rfl (by decide) rfl ?_
      refine gw_iinc (v := (x4 + 1)) CX.1 4 rfl dNight_busyFrom_38 rfl (by decide) rfl ?_
      refine gw_goto (tgt := 5) CX.1 dNight_busyFrom_41 (by decide) ?_
      exact gw_sub [2, 3, 4, 1, 0] rfl (H X CX)
theorem eNight_busyFrom {D : va_G} {d : Nat} {Q : Int32 → (Nat → Nat → Int32) → (Nat → Int64) → Prop} {F : Nat → Nat → Int32} {G : Nat → Int64} {a0 : Int32} {a1 : Int32} (H : AWi D (d + 1) nNight_busyFrom 5 [(0, .ref 16), (1, .int a0), (2, .int a1), (3, .int 0), (4, .int a1)] [] F G Q) : AMi D (d + 1) nNight_busyFrom [.ref 16, .int a0, .int a1] F G Q := by
  refine AM_intro (by decide) (Nat.le_of_ble_eq_true rfl) ?_
  intro X CX
  refine gw_iconst (v := 0) CX.1 dNight_busyFrom_0 (by decide) ?_
  refine gw_istore_n CX.1 dNight_busyFrom_1 rfl (by decide) rfl ?_
  refine gw_iload_n CX.1 3 rfl dNight_busyFrom_2 rfl ?_
  refine gw_istore CX.1 dNight_busyFrom_3 (by decide) rfl ?_
  exact gw_sub [2, 3, 4, 1, 0] rfl (H X CX)
