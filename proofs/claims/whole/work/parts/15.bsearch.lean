theorem bCastSearch_leastLoss_2 {D : va_G} {d : Nat} {Q : Int32 → (Nat → Nat → Int32) → (Nat → Int64) → Prop} {F : Nat → Nat → Int32} {G : Nat → Int64} {x1 : Int32} {x2 : Int32} (H : AMi D d nShow_tracks [.ref 2] F G (fun x1_ F1 G1 => ((x1_ ≤ x2 → AMv D d nCastSearch_readLifts [.ref 19] F1 G1 (fun F2 G2 => AMv D d nCastSearch_seek [.ref 19, .int 0, .int 0] (upS (upS (upS (upA F2 26 (gFl (F2 26) 0 10)) 104 1000000) 105 x1) 106 0) G2 (fun F3 G3 => (((F3 106 0) = 0 → Q (F3 104 0) F3 G3) ∧ (¬ ((F3 106 0) = 0) → Q (-1000000004) F3 G3))))) ∧ (¬ (x1_ ≤ x2) → AMv D d nCastSearch_readPeople [.ref 19, .int x2] F1 G1 (fun F4 G4 => AMv D d nCastSearch_readEarlierTracks [.ref 19, .int x2] F4 G4 (fun F5 G5 => AMi D d nShow_countMusts [.ref 2, .int x2] F5 G5 (fun x6_ F6 G6 => vp_in x2 8 ∧ AWi D (d + 1) nCastSearch_leastLoss 2 [(0, .ref 19), (1, .int x1), (2, .int (x2 + 1))] [] (up F6 22 (x2.toNatClampNeg) (20 + (10 * x6_))) G6 Q))))))) : AWi D (d + 1) nCastSearch_leastLoss 2 [(0, .ref 19), (1, .int x1), (2, .int x2)] [] F G Q := by
  intro X CX
  refine gw_iload_n CX.1 2 rfl dCastSearch_leastLoss_2 rfl ?_
  refine gw_aload_n CX.1 0 rfl dCastSearch_leastLoss_3 rfl ?_
  refine gg_CastSearch_9 CX.1 rfl dCastSearch_leastLoss_4 ?_
  refine cl_Show_tracks CX (Nat.le_of_ble_eq_true rfl) wm_CastSearch_47 dCastSearch_leastLoss_7 H (fun x1_ F1 G1 H => ?_)
  refine gw_icmp_ge (tgt := 49) CX.1 dCastSearch_leastLoss_10 (by decide) (fun c => ?_) (fun c => ?_)
  · replace H := H.1 c
    refine gw_aload_n CX.1 0 rfl dCastSearch_leastLoss_49 rfl ?_
    refine cl_CastSearch_readLifts CX (Nat.le_of_ble_eq_true rfl) wm_CastSearch_64 dCastSearch_leastLoss_50 H (fun F2 G2 H => ?_)
    refine gw_aload_n CX.1 0 rfl dCastSearch_leastLoss_53 rfl ?_
    refine gg_CastSearch_41 CX.1 rfl dCastSearch_leastLoss_54 ?_
    refine gw_iconst (v := 0) CX.1 dCastSearch_leastLoss_57 (by decide) ?_
    refine gcf_I (F' := (upA F2 26 (gFl (F2 26) 0 10))) CX (Nat.le_of_ble_eq_true rfl) wm_CastSearch_67 dCastSearch_leastLoss_58 (by decide) mk_26 (ms_26 _) ?_
    refine gw_aload_n CX.1 0 rfl dCastSearch_leastLoss_61 rfl ?_
    refine gw_ldc CX.1 wc_CastSearch_73 dCastSearch_leastLoss_62 ?_
    refine gp_CastSearch_74 CX.1 rfl dCastSearch_leastLoss_64 ?_
    refine gw_aload_n CX.1 0 rfl dCastSearch_leastLoss_67 rfl ?_
    refine gw_iload_n CX.1 1 rfl dCastSearch_leastLoss_68 rfl ?_
    refine gp_CastSearch_78 CX.1 rfl dCastSearch_leastLoss_69 ?_
    refine gw_aload_n CX.1 0 rfl dCastSearch_leastLoss_72 rfl ?_
    refine gw_iconst (v := 0) CX.1 dCastSearch_leastLoss_73 (by decide) ?_
    refine gp_CastSearch_81 CX.1 rfl (by decide) dCastSearch_leastLoss_74 ?_
    refine gw_aload_n CX.1 0 rfl dCastSearch_leastLoss_77 rfl ?_
    refine gw_iconst (v := 0) CX.1 dCastSearch_leastLoss_78 (by decide) ?_
    refine gw_iconst (v := 0) CX.1 dCastSearch_leastLoss_79 (by decide) ?_
    refine cl_CastSearch_seek CX (Nat.le_of_ble_eq_true rfl) wm_CastSearch_85 dCastSearch_leastLoss_80 H (fun F3 G3 H => ?_)
    refine gw_aload_n CX.1 0 rfl dCastSearch_leastLoss_83 rfl ?_
    refine gg_CastSearch_81 CX.1 rfl dCastSearch_leastLoss_84 ?_
    refine gw_if_eq (tgt := 95) CX.1 dCastSearch_leastLoss_87 (by decide) (fun c => ?_) (fun c => ?_)
    · replace H := H.1 c
      refine gw_aload_n CX.1 0 rfl dCastSearch_leastLoss_95 rfl ?_
      refine gg_CastSearch_74 CX.1 rfl dCastSearch_leastLoss_96 ?_
      exact gw_iret CX rfl rfl ⟨_, _, _, rfl, rfl, H⟩ (Nat.zero_le _) (Nat.zero_le _) dCastSearch_leastLoss_99
    · replace H := H.2 c
      refine gw_ldc CX.1 wc_CastSearch_89 dCastSearch_leastLoss_90 ?_
      refine gw_goto (tgt := 99) CX.1 dCastSearch_leastLoss_92 (by decide) ?_
      exact gw_iret CX rfl rfl ⟨_, _, _, rfl, rfl, H⟩ (Nat.zero_le _) (Nat.zero_le _) dCastSearch_leastLoss_99
  · replace H := H.2 c
    refine gw_aload_n CX.1 0 rfl dCastSearch_leastLoss_13 rfl ?_
    refine gw_iload_n CX.1 2 rfl dCastSearch_leastLoss_14 rfl ?_
    refine cl_CastSearch_readPeople CX (Nat.le_of_ble_eq_true rfl) wm_CastSearch_53 dCastSearch_leastLoss_15 H (fun F4 G4 H => ?_)
    refine gw_aload_n CX.1 0 rfl dCastSearch_leastLoss_18 rfl ?_
    refine gw_iload_n CX.1 2 rfl dCastSearch_leastLoss_19 rfl ?_
    refine cl_CastSearch_readEarlierTracks CX (Nat.le_of_ble_eq_true rfl) wm_CastSearch_57 dCastSearch_leastLoss_20 H (fun F5 G5 H => ?_)
    refine gw_aload_n CX.1 0 rfl dCastSearch_leastLoss_23 rfl ?_
    refine gg_CastSearch_29 CX.1 rfl dCastSearch_leastLoss_24 ?_
    refine gw_iload_n CX.1 2 rfl dCastSearch_leastLoss_27 rfl ?_
    refine gw_bipush (v := 20) CX.1 dCastSearch_leastLoss_28 (by decide) ?_
    refine gw_bipush (v := 10) CX.1 dCastSearch_leastLoss_30 (by decide) ?_
    refine gw_aload_n CX.1 0 rfl dCastSearch_leastLoss_32 rfl ?_
    refine gg_CastSearch_9 CX.1 rfl dCastSearch_leastLoss_33 ?_
    refine gw_iload_n CX.1 2 rfl dCastSearch_leastLoss_36 rfl ?_
    refine cl_Show_countMusts CX (Nat.le_of_ble_eq_true rfl) wm_CastSearch_60 dCastSearch_leastLoss_37 H (fun x6_ F6 G6 H => ?_)
    refine gw_imul CX.1 dCastSearch_leastLoss_40 ?_
    refine gw_iadd CX.1 dCastSearch_leastLoss_41 ?_
    obtain ⟨hin, H⟩ := H
    refine gs_22 CX.1 hin dCastSearch_leastLoss_42 ?_
    refine gw_iinc (v := (x2 + 1)) CX.1 2 rfl dCastSearch_leastLoss_43 rfl (by decide) rfl ?_
    refine gw_goto (tgt := 2) CX.1 dCastSearch_leastLoss_46 (by decide) ?_
    exact gw_sub [1, 2, 0] rfl (H X CX)
theorem eCastSearch_leastLoss {D : va_G} {d : Nat} {Q : Int32 → (Nat → Nat → Int32) → (Nat → Int64) → Prop} {F : Nat → Nat → Int32} {G : Nat → Int64} {a0 : Int32} (H : AWi D (d + 1) nCastSearch_leastLoss 2 [(0, .ref 19), (1, .int a0), (2, .int 0)] [] F G Q) : AMi D (d + 1) nCastSearch_leastLoss [.ref 19, .int a0] F G Q := by
  refine AM_intro (by decide) (Nat.le_of_ble_eq_true rfl) ?_
  intro X CX
  refine gw_iconst (v := 0) CX.1 dCastSearch_leastLoss_0 (by decide) ?_
  refine gw_istore_n CX.1 dCastSearch_leastLoss_1 rfl (by decide) rfl ?_
  exact gw_sub [1, 2, 0] rfl (H X CX)
theorem bCastSearch_readPeople_24 {D : va_G} {d : Nat} {Q : (Nat → Nat → Int32) → (Nat → Int64) → Prop} {F : Nat → Nat → Int32} {G : Nat → Int64} {x1 : Int32} {x2 : Int32} {x3 : Int32} {x4 : Int32} {x5 : Int32} (H : AMi D d nCompany_people [.ref 8] F G (fun x1_ F1 G1 => ((x1_ ≤ x5 → vp_in x1 8 ∧ Q (up F1 19 (x1.toNatClampNeg) x2) G1) ∧ (¬ (x1_ ≤ x5) → AMi D d nCompany_outFrom [.ref 8, .int x5] F1 G1 (fun x2_ F2 G2 => ((x2_ ≤ x3 → AWv D (d + 1) nCastSearch_readPeople 54 [(0, .ref 19), (1, .int x1), (2, .int x2), (3, .int x3), (4, .int x4), (5, .int x5)] [.int 0] F2 G2 Q) ∧ (¬ (x2_ ≤ x3) → AWv D (d + 1) nCastSearch_readPeople 54 [(0, .ref 19), (1, .int x1), (2, .int x2), (3, .int x3), (4, .int x4), (5, .int x5)] [.int 1] F2 G2 Q))))))) : AWv D (d + 1) nCastSearch_readPeople 24 [(0, .ref 19), (1, .int x1), (2, .int x2), (3, .int x3), (4, .int x4), (5, .int x5)] [] F G Q := by
  intro X CX
  refine gw_iload CX.1 5 rfl dCastSearch_readPeople_24 ?_
  refine gw_aload_n CX.1 0 rfl dCastSearch_readPeople_26 rfl ?_
  refine gg_CastSearch_15 CX.1 rfl dCastSearch_readPeople_27 ?_
  refine cl_Company_people CX (Nat.le_of_ble_eq_true rfl) wm_CastSearch_103 dCastSearch_readPeople_30 H (fun x1_ F1 G1 H => ?_)
  refine gw_icmp_ge (tgt := 116) CX.1 dCastSearch_readPeople_33 (by decide) (fun c => ?_) (fun c => ?_)
  · replace H := H.1 c
    refine gw_aload_n CX.1 0 rfl dCastSearch_readPeople_116 rfl ?_
    refine gg_CastSearch_19 CX.1 rfl dCastSearch_readPeople_117 ?_
    refine gw_iload_n CX.1 1 rfl dCastSearch_readPeople_120 rfl ?_
    refine gw_iload_n CX.1 2 rfl dCastSearch_readPeople_121 rfl ?_
    obtain ⟨hin, H⟩ := H
    refine gs_19 CX.1 hin dCastSearch_readPeople_122 ?_
    exact gw_vret CX rfl ⟨_, _, rfl, rfl, H⟩ (Nat.zero_le _) (Nat.zero_le _) dCastSearch_readPeople_123
  · replace H := H.2 c
    refine gw_iload_n CX.1 3 rfl dCastSearch_readPeople_36 rfl ?_
    refine gw_aload_n CX.1 0 rfl dCastSearch_readPeople_37 rfl ?_
    refine gg_CastSearch_15 CX.1 rfl dCastSearch_readPeople_38 ?_
    refine gw_iload CX.1 5 rfl dCastSearch_readPeople_41 ?_
    refine cl_Company_outFrom CX (Nat.le_of_ble_eq_true rfl) wm_CastSearch_106 dCastSearch_readPeople_43 H (fun x2_ F2 G2 H => ?_)
    refine gw_icmp_ge (tgt := 53) CX.1 dCastSearch_readPeople_46 (by decide) (fun c => ?_) (fun c => ?_)
    · replace H := H.1 c
      refine gw_iconst (v := 0) CX.1 dCastSearch_readPeople_53 (by decide) ?_
      exact H X CX
    · replace H := H.2 c
      refine gw_iconst (v := 1) CX.1 dCastSearch_readPeople_49 (by decide) ?_
      refine gw_goto (tgt := 54) CX.1 dCastSearch_readPeople_50 (by decide) ?_
      exact H X CX
theorem bCastSearch_readPeople_54 {D : va_G} {d : Nat} {Q : (Nat → Nat → Int32) → (Nat → Int64) → Prop} {F : Nat → Nat → Int32} {G : Nat → Int64} {x1 : Int32} {x2 : Int32} {x3 : Int32} {x4 : Int32} {x5 : Int32} {s0 : Int32} (H : ((s0 = 0 → AWv D (d + 1) nCastSearch_readPeople 89 [(0, .ref 19), (1, .int x1), (2, .int x2), (3, .int x3), (4, .int x4), (5, .int x5), (6, .int s0)] [] F G Q) ∧ (¬ (s0 = 0) → AMi D d nShow_dressOf [.ref 2, .int x1] F G (fun x1_ F1 G1 => AMi D d nCompany_canPlay [.ref 8, .int x5, .int x1, .int x1_] F1 G1 (fun x2_ F2 G2 => ((x2_ = 0 → AWv D (d + 1) nCastSearch_readPeople 89 [(0, .ref 19), (1, .int x1), (2, .int x2), (3, .int x3), (4, .int x4), (5, .int x5), (6, .int s0)] [] F2 G2 Q) ∧ (¬ (x2_ = 0) → AWv D (d + 1) nCastSearch_readPeople 89 [(0, .ref 19), (1, .int x1), (2, .int (x2 ||| (1 <<< (x5 &&& 31)))), (3, .int x3), (4, .int x4), (5, .int x5), (6, .int s0)] [] F2 G2 Q))))))) : AWv D (d + 1) nCastSearch_readPeople 54 [(0, .ref 19), (1, .int x1), (2, .int x2), (3, .int x3), (4, .int x4), (5, .int x5)] [.int s0] F G Q := by
  intro X CX
  refine gw_istore CX.1 dCastSearch_readPeople_54 (by decide) rfl ?_
  refine gw_iload CX.1 0 rfl dCastSearch_readPeople_56 ?_
  refine gw_if_eq (tgt := 89) CX.1 dCastSearch_readPeople_58 (by decide) (fun c => ?_) (fun c => ?_)
  · replace H := H.1 c
    exact gw_sub [1, 2, 3, 4, 5, 6, 0] rfl (H X CX)
  · replace H := H.2 c
    refine gw_aload_n CX.1 1 rfl dCastSearch_readPeople_61 rfl ?_
    refine gg_CastSearch_15 CX.1 rfl dCastSearch_readPeople_62 ?_
    refine gw_iload CX.1 6 rfl dCastSearch_readPeople_65 ?_
    refine gw_iload_n CX.1 2 rfl dCastSearch_readPeople_67 rfl ?_
    refine gw_aload_n CX.1 1 rfl dCastSearch_readPeople_68 rfl ?_
    refine gg_CastSearch_9 CX.1 rfl dCastSearch_readPeople_69 ?_
    refine gw_iload_n CX.1 2 rfl dCastSearch_readPeople_72 rfl ?_
    refine cl_Show_dressOf CX (Nat.le_of_ble_eq_true rfl) wm_CastSearch_109 dCastSearch_readPeople_73 H (fun x1_ F1 G1 H => ?_)
    refine cl_Company_canPlay CX (Nat.le_of_ble_eq_true rfl) wm_CastSearch_112 dCastSearch_readPeople_76 H (fun x2_ F2 G2 H => ?_)
    refine gw_if_eq (tgt := 89) CX.1 dCastSearch_readPeople_79 (by decide) (fun c => ?_) (fun c => ?_)
    · replace H := H.1 c
      exact gw_sub [1, 2, 3, 4, 5, 6, 0] rfl (H X CX)
    · replace H := H.2 c
      refine gw_iload_n CX.1 3 rfl dCastSearch_readPeople_82 rfl ?_
      refine gw_iconst (v := 1) CX.1 dCastSearch_readPeople_83 (by decide) ?_
      refine gw_iload CX.1 6 rfl dCastSearch_readPeople_84 ?_
      refine gw_ishl CX.1 dCastSearch_readPeople_86 ?_
      refine gw_ior CX.1 dCastSearch_readPeople_87 ?_
      refine gw_istore_n CX.1 dCastSearch_readPeople_88 rfl (by decide) rfl ?_
      exact gw_sub [2, 3, 0, 4, 5, 6, 1] rfl (H X CX)
theorem bCastSearch_readPeople_89 {D : va_G} {d : Nat} {Q : (Nat → Nat → Int32) → (Nat → Int64) → Prop} {F : Nat → Nat → Int32} {G : Nat → Int64} {x1 : Int32} {x2 : Int32} {x3 : Int32} {x4 : Int32} {x5 : Int32} {x6 : Int32} (H : AMi D d nCastSearch_coverLoss [.ref 19, .int x5, .int x1, .int x4] F G (fun x1_ F1 G1 => vp_in ((x1 * 10) + x5) 80 ∧ AWv D (d + 1) nCastSearch_readPeople 24 [(0, .ref 19), (1, .int x1), (2, .int x2), (3, .int x3), (4, .int x4), (5, .int (x5 + 1))] [] (up F1 23 (((x1 * 10) + x5).toNatClampNeg) x1_) G1 Q)) : AWv D (d + 1) nCastSearch_readPeople 89 [(0, .ref 19), (1, .int x1), (2, .int x2), (3, .int x3), (4, .int x4), (5, .int x5), (6, .int x6)] [] F G Q := by
  intro X CX
  refine gw_aload_n CX.1 0 rfl dCastSearch_readPeople_89 rfl ?_
  refine gg_CastSearch_32 CX.1 rfl dCastSearch_readPeople_90 ?_
  refine gw_iload_n CX.1 1 rfl dCastSearch_readPeople_93 rfl ?_
  refine gw_bipush (v := 10) CX.1 dCastSearch_readPeople_94 (by decide) ?_
  refine gw_imul CX.1 dCastSearch_readPeople_96 ?_
  refine gw_iload CX.1 5 rfl dCastSearch_readPeople_97 ?_
  refine gw_iadd CX.1 dCastSearch_readPeople_99 ?_
  refine gw_aload_n CX.1 0 rfl dCastSearch_readPeople_100 rfl ?_
  refine gw_iload CX.1 5 rfl dCastSearch_readPeople_101 ?_
  refine gw_iload_n CX.1 1 rfl dCastSearch_readPeople_103 rfl ?_
  refine gw_iload CX.1 4 rfl dCastSearch_readPeople_104 ?_
  refine cl_CastSearch_coverLoss CX (Nat.le_of_ble_eq_true rfl) wm_CastSearch_116 dCastSearch_readPeople_106 H (fun x1_ F1 G1 H => ?_)
  obtain ⟨hin, H⟩ := H
  refine gs_23 CX.1 hin dCastSearch_readPeople_109 ?_
  refine gw_iinc (v := (x5 + 1)) CX.1 5 rfl dCastSearch_readPeople_110 rfl (by decide) rfl ?_
  refine gw_goto (tgt := 24) CX.1 dCastSearch_readPeople_113 (by decide) ?_
  exact gw_sub [1, 2, 3, 4, 5, 0] rfl (H X CX)
theorem eCastSearch_readPeople {D : va_G} {d : Nat} {Q : (Nat → Nat → Int32) → (Nat → Int64) → Prop} {F : Nat → Nat → Int32} {G : Nat → Int64} {a0 : Int32} (H : AMi D d nShow_lastCue [.ref 2, .int a0] F G (fun x1_ F1 G1 => AMi D d nCompany_ownerOf [.ref 8, .int a0] F1 G1 (fun x2_ F2 G2 => AWv D (d + 1) nCastSearch_readPeople 24 [(0, .ref 19), (1, .int a0), (2, .int 0), (3, .int x1_), (4, .int x2_), (5, .int 0)] [] F2 G2 Q))) : AMv D (d + 1) nCastSearch_readPeople [.ref 19, .int a0] F G Q := by
  refine AM_intro (by decide) (Nat.le_of_ble_eq_true rfl) ?_
  intro X CX
  refine gw_iconst (v := 0) CX.1 dCastSearch_readPeople_0 (by decide) ?_
  refine gw_istore_n CX.1 dCastSearch_readPeople_1 rfl (by decide) rfl ?_
  refine gw_aload_n CX.1 1 rfl dCastSearch_readPeople_2 rfl ?_
  refine gg_CastSearch_9 CX.1 rfl dCastSearch_readPeople_3 ?_
  refine gw_iload_n CX.1 2 rfl dCastSearch_readPeople_6 rfl ?_
  refine cl_Show_lastCue CX (Nat.le_of_ble_eq_true rfl) wm_CastSearch_95 dCastSearch_readPeople_7 H (fun x1_ F1 G1 H => ?_)
  refine gw_istore_n CX.1 dCastSearch_readPeople_10 rfl (by decide) rfl ?_
  refine gw_aload_n CX.1 2 rfl dCastSearch_readPeople_11 rfl ?_
  refine gg_CastSearch_15 CX.1 rfl dCastSearch_readPeople_12 ?_
  refine gw_iload_n CX.1 3 rfl dCastSearch_readPeople_15 rfl ?_
  refine cl_Company_ownerOf CX (Nat.le_of_ble_eq_true rfl) wm_CastSearch_98 dCastSearch_readPeople_16 H (fun x2_ F2 G2 H => ?_)
  refine gw_istore CX.1 dCastSearch_readPeople_19 (by decide) rfl ?_
  refine gw_iconst (v := 0) CX.1 dCastSearch_readPeople_21 (by decide) ?_
  refine gw_istore CX.1 dCastSearch_readPeople_22 (by decide) rfl ?_
  exact gw_sub [4, 5, 3, 2, 1, 0] rfl (H X CX)
theorem bCastSearch_coverLoss_24 {D : va_G} {d : Nat} {Q : Int32 → (Nat → Nat → Int32) → (Nat → Int64) → Prop} {F : Nat → Nat → Int32} {G : Nat → Int64} {x1 : Int32} {x2 : Int32} {x3 : Int32} {s0 : Int32} (H : ((¬ x3 = (-1000000005) → AMi D d nCompany_isOfKind [.ref 8, .int x1, .int 2] F G (fun x1_ F1 G1 => ((x1_ = 0 → Q (s0 + 2) F1 G1) ∧ (¬ (x1_ = 0) → Q (s0 + 1) F1 G1)))) ∧ (x3 = (-1000000005) → Q s0 F G))) : AWi D (d + 1) nCastSearch_coverLoss 24 [(0, .ref 19), (1, .int x1), (2, .int x2), (3, .int x3)] [.int s0] F G Q := by
  intro X CX
  refine gw_istore CX.1 dCastSearch_coverLoss_24 (by decide) rfl ?_
  refine gw_iload_n CX.1 4 rfl dCastSearch_coverLoss_26 rfl ?_
  refine gw_ldc CX.1 wc_CastSearch_94 dCastSearch_coverLoss_27 ?_
  refine gw_icmp_ne (tgt := 35) CX.1 dCastSearch_coverLoss_29 (by decide) (fun c => ?_) (fun c => ?_)
  · replace H := H.1 c
    refine gw_iload CX.1 0 rfl dCastSearch_coverLoss_35 ?_
    refine gw_aload_n CX.1 1 rfl dCastSearch_coverLoss_37 rfl ?_
    refine gg_CastSearch_15 CX.1 rfl dCastSearch_coverLoss_38 ?_
    refine gw_iload_n CX.1 2 rfl dCastSearch_coverLoss_41 rfl ?_
    refine gw_iconst (v := 2) CX.1 dCastSearch_coverLoss_42 (by decide) ?_
    refine cl_Company_isOfKind CX (Nat.le_of_ble_eq_true rfl) wm_CastSearch_124 dCastSearch_coverLoss_43 H (fun x1_ F1 G1 H => ?_)
    refine gw_if_eq (tgt := 53) CX.1 dCastSearch_coverLoss_46 (by decide) (fun c => ?_) (fun c => ?_)
    · replace H := H.1 c
      refine gw_iconst (v := 2) CX.1 dCastSearch_coverLoss_53 (by decide) ?_
      refine gw_iadd CX.1 dCastSearch_coverLoss_54 ?_
      exact gw_iret CX rfl rfl ⟨_, _, _, rfl, rfl, H⟩ (Nat.zero_le _) (Nat.zero_le _) dCastSearch_coverLoss_55
    · replace H := H.2 c
      refine gw_iconst (v := 1) CX.1 dCastSearch_coverLoss_49 (by decide) ?_
      refine gw_goto (tgt := 54) CX.1 dCastSearch_coverLoss_50 (by decide) ?_
      refine gw_iadd CX.1 dCastSearch_coverLoss_54 ?_
      exact gw_iret CX rfl rfl ⟨_, _, _, rfl, rfl, H⟩ (Nat.zero_le _) (Nat.zero_le _) dCastSearch_coverLoss_55
  · replace H := H.2 c
    refine gw_iload CX.1 0 rfl dCastSearch_coverLoss_32 ?_
    exact gw_iret CX rfl rfl ⟨_, _, _, rfl, rfl, H⟩ (Nat.zero_le _) (Nat.zero_le _) dCastSearch_coverLoss_34
theorem eCastSearch_coverLoss {D : va_G} {d : Nat} {Q : Int32 → (Nat → Nat → Int32) → (Nat → Int64) → Prop} {F : Nat → Nat → Int32} {G : Nat → Int64} {a0 : Int32} {a1 : Int32} {a2 : Int32} (H : ((¬ a2 = a0 → AMi D d nCompany_isFresh [.ref 8, .int a0, .int a1] F G (fun x1_ F1 G1 => ((x1_ = 0 → AWi D (d + 1) nCastSearch_coverLoss 24 [(0, .ref 19), (1, .int a0), (2, .int a1), (3, .int a2)] [.int 3] F1 G1 Q) ∧ (¬ (x1_ = 0) → AWi D (d + 1) nCastSearch_coverLoss 24 [(0, .ref 19), (1, .int a0), (2, .int a1), (3, .int a2)] [.int 0] F1 G1 Q)))) ∧ (a2 = a0 → Q 0 F G))) : AMi D (d + 1) nCastSearch_coverLoss [.ref 19, .int a0, .int a1, .int a2] F G Q := by
  refine AM_intro (by decide) (Nat.le_of_ble_eq_true rfl) ?_
  intro X CX
  refine gw_iload_n CX.1 3 rfl dCastSearch_coverLoss_0 rfl ?_
  refine gw_iload_n CX.1 1 rfl dCastSearch_coverLoss_1 rfl ?_
  refine gw_icmp_ne (tgt := 7) CX.1 dCastSearch_coverLoss_2 (by decide) (fun c => ?_) (fun c => ?_)
  · replace H := H.1 c
    refine gw_aload_n CX.1 0 rfl dCastSearch_coverLoss_7 rfl ?_
    refine gg_CastSearch_15 CX.1 rfl dCastSearch_coverLoss_8 ?_
    refine gw_iload_n CX.1 1 rfl dCastSearch_coverLoss_11 rfl ?_
    refine gw_iload_n CX.1 2 rfl dCastSearch_coverLoss_12 rfl ?_
    refine cl_Company_isFresh CX (Nat.le_of_ble_eq_true rfl) wm_CastSearch_120 dCastSearch_coverLoss_13 H (fun x1_ F1 G1 H => ?_)
    refine gw_if_eq (tgt := 23) CX.1 dCastSearch_coverLoss_16 (by decide) (fun c => ?_) (fun c => ?_)
    · replace H := H.1 c
      refine gw_iconst (v := 3) CX.1 dCastSearch_coverLoss_23 (by decide) ?_
      exact H X CX
    · replace H := H.2 c
      refine gw_iconst (v := 0) CX.1 dCastSearch_coverLoss_19 (by decide) ?_
      refine gw_goto (tgt := 24) CX.1 dCastSearch_coverLoss_20 (by decide) ?_
      exact H X CX
  · replace H := H.2 c
    refine gw_iconst (v := 0) CX.1 dCastSearch_coverLoss_5 (by decide) ?_
    exact gw_iret CX rfl rfl ⟨_, _, _, rfl, rfl, H⟩ (Nat.zero_le _) (Nat.zero_le _) dCastSearch_coverLoss_6
theorem bCastSearch_readEarlierTracks_35 {D : va_G} {d : Nat} {Q : (Nat → Nat → Int32) → (Nat → Int64) → Prop} {F : Nat → Nat → Int32} {G : Nat → Int64} {x1 : Int32} {x2 : Int32} {x3 : Int32} {x4 : Int32} {s0 : Int32} {s1 : Int32} (H : AMi D d nShow_canBeFoes [.ref 2, .int x1, .int x4] F G (fun x1_ F1 G1 => ((x1_ = 0 → AWv D (d + 1) nCastSearch_readEarlierTracks 7 [(0, .ref 19), (1, .int x1), (2, .int (s1 ||| s0)), (3, .int (x3 ||| (1 <<< (x4 &&& 31)))), (4, .int (x4 + 1))] [] F1 G1 Q) ∧ (¬ (x1_ = 0) → AWv D (d + 1) nCastSearch_readEarlierTracks 7 [(0, .ref 19), (1, .int x1), (2, .int (s1 ||| s0)), (3, .int (x3 ||| 0)), (4, .int (x4 + 1))] [] F1 G1 Q)))) : AWv D (d + 1) nCastSearch_readEarlierTracks 35 [(0, .ref 19), (1, .int x1), (2, .int x2), (3, .int x3), (4, .int x4)] [.int s0, .int s1] F G Q := by
  intro X CX
  refine gw_ior CX.1 dCastSearch_readEarlierTracks_35 ?_
  refine gw_istore_n CX.1 dCastSearch_readEarlierTracks_36 rfl (by decide) rfl ?_
  refine gw_iload_n CX.1 3 rfl dCastSearch_readEarlierTracks_37 rfl ?_
  refine gw_aload_n CX.1 1 rfl dCastSearch_readEarlierTracks_38 rfl ?_
  refine gg_CastSearch_9 CX.1 rfl dCastSearch_readEarlierTracks_39 ?_
  refine gw_iload_n CX.1 2 rfl dCastSearch_readEarlierTracks_42 rfl ?_
  refine gw_iload CX.1 4 rfl dCastSearch_readEarlierTracks_43 ?_
  refine cl_Show_canBeFoes CX (Nat.le_of_ble_eq_true rfl) wm_CastSearch_130 dCastSearch_readEarlierTracks_45 H (fun x1_ F1 G1 H => ?_)
  refine gw_if_eq (tgt := 55) CX.1 dCastSearch_readEarlierTracks_48 (by decide) (fun c => ?_) (fun c => ?_)
  · replace H := H.1 c
    refine gw_iconst (v := 1) CX.1 dCastSearch_readEarlierTracks_55 (by decide) ?_
    refine gw_iload CX.1 4 rfl dCastSearch_readEarlierTracks_56 ?_
    refine gw_ishl CX.1 dCastSearch_readEarlierTracks_58 ?_
    refine gw_ior CX.1 dCastSearch_readEarlierTracks_59 ?_
    refine gw_istore_n CX.1 dCastSearch_readEarlierTracks_60 rfl (by decide) rfl ?_
    refine gw_iinc (v := (x4 + 1)) CX.1 4 rfl dCastSearch_readEarlierTracks_61 rfl (by decide) rfl ?_
    refine gw_goto (tgt := 7) CX.1 dCastSearch_readEarlierTracks_64 (by decide) ?_
    exact gw_sub [3, 4, 2, 1, 0] rfl (H X CX)
  · replace H := H.2 c
    refine gw_iconst (v := 0) CX.1 dCastSearch_readEarlierTracks_51 (by decide) ?_
    refine gw_goto (tgt := 59) CX.1 dCastSearch_readEarlierTracks_52 (by decide) ?_
    refine gw_ior CX.1 dCastSearch_readEarlierTracks_59 ?_
    refine gw_istore_n CX.1 dCastSearch_readEarlierTracks_60 rfl (by decide) rfl ?_
    refine gw_iinc (v := (x4 + 1)) CX.1 4 rfl dCastSearch_readEarlierTracks_61 rfl (by decide) rfl ?_
    refine gw_goto (tgt := 7) CX.1 dCastSearch_readEarlierTracks_64 (by decide) ?_
    exact gw_sub [3, 4, 2, 1, 0] rfl (H X CX)
theorem bCastSearch_readEarlierTracks_7 {D : va_G} {d : Nat} {Q : (Nat → Nat → Int32) → (Nat → Int64) → Prop} {F : Nat → Nat → Int32} {G : Nat → Int64} {x1 : Int32} {x2 : Int32} {x3 : Int32} {x4 : Int32} (H : ((x1 ≤ x4 → vp_in x1 8 ∧ vp_in x1 8 ∧ Q (up (up F 20 (x1.toNatClampNeg) x2) 21 (x1.toNatClampNeg) x3) G) ∧ (¬ (x1 ≤ x4) → AMi D d nShow_canBeOnePersons [.ref 2, .int x1, .int x4] F G (fun x1_ F1 G1 => ((x1_ = 0 → AWv D (d + 1) nCastSearch_readEarlierTracks 35 [(0, .ref 19), (1, .int x1), (2, .int x2), (3, .int x3), (4, .int x4)] [.int (1 <<< (x4 &&& 31)), .int x2] F1 G1 Q) ∧ (¬ (x1_ = 0) → AWv D (d + 1) nCastSearch_readEarlierTracks 35 [(0, .ref 19), (1, .int x1), (2, .int x2), (3, .int x3), (4, .int x4)] [.int 0, .int x2] F1 G1 Q)))))) : AWv D (d + 1) nCastSearch_readEarlierTracks 7 [(0, .ref 19), (1, .int x1), (2, .int x2), (3, .int x3), (4, .int x4)] [] F G Q := by
  intro X CX
  refine gw_iload CX.1 4 rfl dCastSearch_readEarlierTracks_7 ?_
  refine gw_iload_n CX.1 1 rfl dCastSearch_readEarlierTracks_9 rfl ?_
  refine gw_icmp_ge (tgt := 67) CX.1 dCastSearch_readEarlierTracks_10 (by decide) (fun c => ?_) (fun c => ?_)
  · replace H := H.1 c
    refine gw_aload_n CX.1 0 rfl dCastSearch_readEarlierTracks_67 rfl ?_
    refine gg_CastSearch_23 CX.1 rfl dCastSearch_readEarlierTracks_68 ?_
    refine gw_iload_n CX.1 1 rfl dCastSearch_readEarlierTracks_71 rfl ?_
    refine gw_iload_n CX.1 2 rfl dCastSearch_readEarlierTracks_72 rfl ?_
    obtain ⟨hin, H⟩ := H
    refine gs_20 CX.1 hin dCastSearch_readEarlierTracks_73 ?_
    refine gw_aload_n CX.1 0 rfl dCastSearch_readEarlierTracks_74 rfl ?_
    refine gg_CastSearch_26 CX.1 rfl dCastSearch_readEarlierTracks_75 ?_
    refine gw_iload_n CX.1 1 rfl dCastSearch_readEarlierTracks_78 rfl ?_
    refine gw_iload_n CX.1 3 rfl dCastSearch_readEarlierTracks_79 rfl ?_
    obtain ⟨hin, H⟩ := H
    refine gs_21 CX.1 hin dCastSearch_readEarlierTracks_80 ?_
    exact gw_vret CX rfl ⟨_, _, rfl, rfl, H⟩ (Nat.zero_le _) (Nat.zero_le _) dCastSearch_readEarlierTracks_81
  · replace H := H.2 c
    refine gw_iload_n CX.1 2 rfl dCastSearch_readEarlierTracks_13 rfl ?_
    refine gw_aload_n CX.1 0 rfl dCastSearch_readEarlierTracks_14 rfl ?_
    refine gg_CastSearch_9 CX.1 rfl dCastSearch_readEarlierTracks_15 ?_
    refine gw_iload_n CX.1 1 rfl dCastSearch_readEarlierTracks_18 rfl ?_
    refine gw_iload CX.1 4 rfl dCastSearch_readEarlierTracks_19 ?_
    refine cl_Show_canBeOnePersons CX (Nat.le_of_ble_eq_true rfl) wm_CastSearch_127 dCastSearch_readEarlierTracks_21 H (fun x1_ F1 G1 H => ?_)
    refine gw_if_eq (tgt := 31) CX.1 dCastSearch_readEarlierTracks_24 (by decide) (fun c => ?_) (fun c => ?_)
    · replace H := H.1 c
      refine gw_iconst (v := 1) CX.1 dCastSearch_readEarlierTracks_31 (by decide) ?_
      refine gw_iload CX.1 4 rfl dCastSearch_readEarlierTracks_32 ?_
      refine gw_ishl CX.1 dCastSearch_readEarlierTracks_34 ?_
      exact H X CX
    · replace H := H.2 c
      refine gw_iconst (v := 0) CX.1 dCastSearch_readEarlierTracks_27 (by decide) ?_
      refine gw_goto (tgt := 35) CX.1 dCastSearch_readEarlierTracks_28 (by decide) ?_
      exact H X CX
theorem eCastSearch_readEarlierTracks {D : va_G} {d : Nat} {Q : (Nat → Nat → Int32) → (Nat → Int64) → Prop} {F : Nat → Nat → Int32} {G : Nat → Int64} {a0 : Int32} (H : AWv D (d + 1) nCastSearch_readEarlierTracks 7 [(0, .ref 19), (1, .int a0), (2, .int 0), (3, .int 0), (4, .int 0)] [] F G Q) : AMv D (d + 1) nCastSearch_readEarlierTracks [.ref 19, .int a0] F G Q := by
  refine AM_intro (by decide) (Nat.le_of_ble_eq_true rfl) ?_
  intro X CX
  refine gw_iconst (v := 0) CX.1 dCastSearch_readEarlierTracks_0 (by decide) ?_
  refine gw_istore_n CX.1 dCastSearch_readEarlierTracks_1 rfl (by decide) rfl ?_
  refine gw_iconst (v := 0) CX.1 dCastSearch_readEarlierTracks_2 (by decide) ?_
  refine gw_istore_n CX.1 dCastSearch_readEarlierTracks_3 rfl (by decide) rfl ?_
  refine gw_iconst (v := 0) CX.1 dCastSearch_readEarlierTracks_4 (by decide) ?_
  refine gw_istore CX.1 dCastSearch_readEarlierTracks_5 (by decide) rfl ?_
  exact gw_sub [3, 4, 2, 1, 0] rfl (H X CX)
theorem bCastSearch_readLifts_10 {D : va_G} {d : Nat} {Q : (Nat → Nat → Int32) → (Nat → Int64) → Prop} {F : Nat → Nat → Int32} {G : Nat → Int64} {x1 : Int32} (H : ((30 ≤ x1 → Q F G) ∧ (¬ (30 ≤ x1) → AMi D d nShow_lifterIn [.ref 2, .int x1] F G (fun x1_ F1 G1 => AMi D d nShow_liftedIn [.ref 2, .int x1] F1 G1 (fun x2_ F2 G2 => AMi D d nShow_isTrack [.ref 2, .int x1_] F2 G2 (fun x3_ F3 G3 => ((x3_ = 0 → AWv D (d + 1) nCastSearch_readLifts 10 [(0, .ref 19), (1, .int (x1 + 1))] [] F3 G3 Q) ∧ (¬ (x3_ = 0) → AMi D d nShow_isTrack [.ref 2, .int x2_] F3 G3 (fun x4_ F4 G4 => ((x4_ = 0 → AWv D (d + 1) nCastSearch_readLifts 10 [(0, .ref 19), (1, .int (x1 + 1))] [] F4 G4 Q) ∧ (¬ (x4_ = 0) → vp_in ((x1_ * 8) + x2_) 64 ∧ vp_in ((x1_ * 8) + x2_) 64 ∧ AWv D (d + 1) nCastSearch_readLifts 10 [(0, .ref 19), (1, .int (x1 + 1))] [] (up F4 24 (((x1_ * 8) + x2_).toNatClampNeg) ((F4 24 ((x1_ * 8) + x2_).toNatClampNeg) + 1)) G4 Q))))))))))) : AWv D (d + 1) nCastSearch_readLifts 10 [(0, .ref 19), (1, .int x1)] [] F G Q := by
  intro X CX
  refine gw_iload_n CX.1 1 rfl dCastSearch_readLifts_10 rfl ?_
  refine gw_bipush (v := 30) CX.1 dCastSearch_readLifts_11 (by decide) ?_
  refine gw_icmp_ge (tgt := 77) CX.1 dCastSearch_readLifts_13 (by decide) (fun c => ?_) (fun c => ?_)
  · replace H := H.1 c
    exact gw_vret CX rfl ⟨_, _, rfl, rfl, H⟩ (Nat.zero_le _) (Nat.zero_le _) dCastSearch_readLifts_77
  · replace H := H.2 c
    refine gw_aload_n CX.1 0 rfl dCastSearch_readLifts_16 rfl ?_
    refine gg_CastSearch_9 CX.1 rfl dCastSearch_readLifts_17 ?_
    refine gw_iload_n CX.1 1 rfl dCastSearch_readLifts_20 rfl ?_
    refine cl_Show_lifterIn CX (Nat.le_of_ble_eq_true rfl) wm_CastSearch_133 dCastSearch_readLifts_21 H (fun x1_ F1 G1 H => ?_)
    refine gw_istore_n CX.1 dCastSearch_readLifts_24 rfl (by decide) rfl ?_
    refine gw_aload_n CX.1 1 rfl dCastSearch_readLifts_25 rfl ?_
    refine gg_CastSearch_9 CX.1 rfl dCastSearch_readLifts_26 ?_
    refine gw_iload_n CX.1 2 rfl dCastSearch_readLifts_29 rfl ?_
    refine cl_Show_liftedIn CX (Nat.le_of_ble_eq_true rfl) wm_CastSearch_136 dCastSearch_readLifts_30 H (fun x2_ F2 G2 H => ?_)
    refine gw_istore_n CX.1 dCastSearch_readLifts_33 rfl (by decide) rfl ?_
    refine gw_aload_n CX.1 2 rfl dCastSearch_readLifts_34 rfl ?_
    refine gg_CastSearch_9 CX.1 rfl dCastSearch_readLifts_35 ?_
    refine gw_iload_n CX.1 1 rfl dCastSearch_readLifts_38 rfl ?_
    refine cl_Show_isTrack CX (Nat.le_of_ble_eq_true rfl) wm_CastSearch_90 dCastSearch_readLifts_39 H (fun x3_ F3 G3 H => ?_)
    refine gw_if_eq (tgt := 71) CX.1 dCastSearch_readLifts_42 (by decide) (fun c => ?_) (fun c => ?_)
    · replace H := H.1 c
      refine gw_iinc (v := (x1 + 1)) CX.1 3 rfl dCastSearch_readLifts_71 rfl (by decide) rfl ?_
      refine gw_goto (tgt := 10) CX.1 dCastSearch_readLifts_74 (by decide) ?_
      exact gw_sub [3, 0] rfl (H X CX)
    · replace H := H.2 c
      refine gw_aload_n CX.1 2 rfl dCastSearch_readLifts_45 rfl ?_
      refine gg_CastSearch_9 CX.1 rfl dCastSearch_readLifts_46 ?_
      refine gw_iload_n CX.1 0 rfl dCastSearch_readLifts_49 rfl ?_
      refine cl_Show_isTrack CX (Nat.le_of_ble_eq_true rfl) wm_CastSearch_90 dCastSearch_readLifts_50 H (fun x4_ F4 G4 H => ?_)
      refine gw_if_eq (tgt := 71) CX.1 dCastSearch_readLifts_53 (by decide) (fun c => ?_) (fun c => ?_)
      · replace H := H.1 c
        refine gw_iinc (v := (x1 + 1)) CX.1 3 rfl dCastSearch_readLifts_71 rfl (by decide) rfl ?_
        refine gw_goto (tgt := 10) CX.1 dCastSearch_readLifts_74 (by decide) ?_
        exact gw_sub [3, 0] rfl (H X CX)
      · replace H := H.2 c
        refine gw_aload_n CX.1 2 rfl dCastSearch_readLifts_56 rfl ?_
        refine gg_CastSearch_35 CX.1 rfl dCastSearch_readLifts_57 ?_
        refine gw_iload_n CX.1 1 rfl dCastSearch_readLifts_60 rfl ?_
        refine gw_bipush (v := 8) CX.1 dCastSearch_readLifts_61 (by decide) ?_
        refine gw_imul CX.1 dCastSearch_readLifts_63 ?_
        refine gw_iload_n CX.1 0 rfl dCastSearch_readLifts_64 rfl ?_
        refine gw_iadd CX.1 dCastSearch_readLifts_65 ?_
        refine gw_dup2 CX.1 dCastSearch_readLifts_66 rfl rfl ?_
        obtain ⟨hin, H⟩ := H
        refine ga_24 CX.1 hin dCastSearch_readLifts_67 ?_
        refine gw_iconst (v := 1) CX.1 dCastSearch_readLifts_68 (by decide) ?_
        refine gw_iadd CX.1 dCastSearch_readLifts_69 ?_
        obtain ⟨hin, H⟩ := H
        refine gs_24 CX.1 hin dCastSearch_readLifts_70 ?_
        refine gw_iinc (v := (x1 + 1)) CX.1 3 rfl dCastSearch_readLifts_71 rfl (by decide) rfl ?_
        refine gw_goto (tgt := 10) CX.1 dCastSearch_readLifts_74 (by decide) ?_
        exact gw_sub [3, 0] rfl (H X CX)
theorem eCastSearch_readLifts {D : va_G} {d : Nat} {Q : (Nat → Nat → Int32) → (Nat → Int64) → Prop} {F : Nat → Nat → Int32} {G : Nat → Int64} (H : AWv D (d + 1) nCastSearch_readLifts 10 [(0, .ref 19), (1, .int 0)] [] (upA F 24 (gFl (F 24) 0 64)) G Q) : AMv D (d + 1) nCastSearch_readLifts [.ref 19] F G Q := by
  refine AM_intro (by decide) (Nat.le_of_ble_eq_true rfl) ?_
  intro X CX
  refine gw_aload_n CX.1 0 rfl dCastSearch_readLifts_0 rfl ?_
  refine gg_CastSearch_35 CX.1 rfl dCastSearch_readLifts_1 ?_
  refine gw_iconst (v := 0) CX.1 dCastSearch_readLifts_4 (by decide) ?_
  refine gcf_I (F' := (upA F 24 (gFl (F 24) 0 64))) CX (Nat.le_of_ble_eq_true rfl) wm_CastSearch_67 dCastSearch_readLifts_5 (by decide) mk_24 (ms_24 _) ?_
  refine gw_iconst (v := 0) CX.1 dCastSearch_readLifts_8 (by decide) ?_
  refine gw_istore_n CX.1 dCastSearch_readLifts_9 rfl (by decide) rfl ?_
  exact gw_sub [1, 0] rfl (H X CX)
theorem bCastSearch_seek_35 {D : va_G} {d : Nat} {Q : (Nat → Nat → Int32) → (Nat → Int64) → Prop} {F : Nat → Nat → Int32} {G : Nat → Int64} {x1 : Int32} {x2 : Int32} {x3 : Int32} {x4 : Int32} (H : AMi D d nCompany_people [.ref 8] F G (fun x1_ F1 G1 => ((x1_ ≤ x4 → vp_in x1 8 ∧ vp_in x1 8 ∧ AMi D d nCastSearch_liftLoss [.ref 19, .int x1] (up F1 25 (x1.toNatClampNeg) (-1000000005)) G1 (fun x2_ F2 G2 => AMv D d nCastSearch_seek [.ref 19, .int (x1 + 1), .int ((x2 + ((up F1 25 (x1.toNatClampNeg) (-1000000005)) 22 x1.toNatClampNeg)) + x2_)] F2 G2 (fun F3 G3 => Q F3 G3))) ∧ (¬ (x1_ ≤ x4) → ((¬ ((x3 >>> (x4 &&& 31)) &&& 1) = 1 → AWv D (d + 1) nCastSearch_seek 65 [(0, .ref 19), (1, .int x1), (2, .int x2), (3, .int x3), (4, .int x4)] [] F1 G1 Q) ∧ (((x3 >>> (x4 &&& 31)) &&& 1) = 1 → AMv D d nCastSearch_tryPerson [.ref 19, .int x1, .int x4, .int x2] F1 G1 (fun F4 G4 => AWv D (d + 1) nCastSearch_seek 65 [(0, .ref 19), (1, .int x1), (2, .int x2), (3, .int x3), (4, .int x4)] [] F4 G4 Q))))))) : AWv D (d + 1) nCastSearch_seek 35 [(0, .ref 19), (1, .int x1), (2, .int x2), (3, .int x3), (4, .int x4)] [] F G Q := by
  intro X CX
  refine gw_iload CX.1 4 rfl dCastSearch_seek_35 ?_
  refine gw_aload_n CX.1 0 rfl dCastSearch_seek_37 rfl ?_
  refine gg_CastSearch_15 CX.1 rfl dCastSearch_seek_38 ?_
  refine cl_Company_people CX (Nat.le_of_ble_eq_true rfl) wm_CastSearch_103 dCastSearch_seek_41 H (fun x1_ F1 G1 H => ?_)
  refine gw_icmp_ge (tgt := 79) CX.1 dCastSearch_seek_44 (by decide) (fun c => ?_) (fun c => ?_)
  · replace H := H.1 c
    refine gw_aload_n CX.1 0 rfl dCastSearch_seek_79 rfl ?_
    refine gg_CastSearch_38 CX.1 rfl dCastSearch_seek_80 ?_
    refine gw_iload_n CX.1 1 rfl dCastSearch_seek_83 rfl ?_
    refine gw_ldc CX.1 wc_CastSearch_94 dCastSearch_seek_84 ?_
    obtain ⟨hin, H⟩ := H
    refine gs_25 CX.1 hin dCastSearch_seek_86 ?_
    refine gw_aload_n CX.1 0 rfl dCastSearch_seek_87 rfl ?_
    refine gw_iload_n CX.1 1 rfl dCastSearch_seek_88 rfl ?_
    refine gw_iconst (v := 1) CX.1 dCastSearch_seek_89 (by decide) ?_
    refine gw_iadd CX.1 dCastSearch_seek_90 ?_
    refine gw_iload_n CX.1 2 rfl dCastSearch_seek_91 rfl ?_
    refine gw_aload_n CX.1 0 rfl dCastSearch_seek_92 rfl ?_
    refine gg_CastSearch_29 CX.1 rfl dCastSearch_seek_93 ?_
    refine gw_iload_n CX.1 1 rfl dCastSearch_seek_96 rfl ?_
    obtain ⟨hin, H⟩ := H
    refine ga_22 CX.1 hin dCastSearch_seek_97 ?_
    refine gw_iadd CX.1 dCastSearch_seek_98 ?_
    refine gw_aload_n CX.1 0 rfl dCastSearch_seek_99 rfl ?_
    refine gw_iload_n CX.1 1 rfl dCastSearch_seek_100 rfl ?_
    refine cl_CastSearch_liftLoss CX (Nat.le_of_ble_eq_true rfl) wm_CastSearch_149 dCastSearch_seek_101 H (fun x2_ F2 G2 H => ?_)
    refine gw_iadd CX.1 dCastSearch_seek_104 ?_
    refine cl_CastSearch_seek CX (Nat.le_of_ble_eq_true rfl) wm_CastSearch_85 dCastSearch_seek_105 H (fun F3 G3 H => ?_)
    exact gw_vret CX rfl ⟨_, _, rfl, rfl, H⟩ (Nat.zero_le _) (Nat.zero_le _) dCastSearch_seek_108
  · replace H := H.2 c
    refine gw_iload_n CX.1 3 rfl dCastSearch_seek_47 rfl ?_
    refine gw_iload CX.1 4 rfl dCastSearch_seek_48 ?_
    refine gw_ishr CX.1 dCastSearch_seek_50 ?_
    refine gw_iconst (v := 1) CX.1 dCastSearch_seek_51 (by decide) ?_
    refine gw_iand CX.1 dCastSearch_seek_52 ?_
    refine gw_iconst (v := 1) CX.1 dCastSearch_seek_53 (by decide) ?_
    refine gw_icmp_ne (tgt := 65) CX.1 dCastSearch_seek_54 (by decide) (fun c => ?_) (fun c => ?_)
    · replace H := H.1 c
      exact H X CX
    · replace H := H.2 c
      refine gw_aload_n CX.1 0 rfl dCastSearch_seek_57 rfl ?_
      refine gw_iload_n CX.1 1 rfl dCastSearch_seek_58 rfl ?_
      refine gw_iload CX.1 4 rfl dCastSearch_seek_59 ?_
      refine gw_iload_n CX.1 2 rfl dCastSearch_seek_61 rfl ?_
      refine cl_CastSearch_tryPerson CX (Nat.le_of_ble_eq_true rfl) wm_CastSearch_145 dCastSearch_seek_62 H (fun F4 G4 H => ?_)
      exact H X CX
theorem bCastSearch_seek_65 {D : va_G} {d : Nat} {Q : (Nat → Nat → Int32) → (Nat → Int64) → Prop} {F : Nat → Nat → Int32} {G : Nat → Int64} {x1 : Int32} {x2 : Int32} {x3 : Int32} {x4 : Int32} (H : (((F 106 0) = 0 → AWv D (d + 1) nCastSearch_seek 35 [(0, .ref 19), (1, .int x1), (2, .int x2), (3, .int x3), (4, .int (x4 + 1))] [] F G Q) ∧ (¬ ((F 106 0) = 0) → Q F G))) : AWv D (d + 1) nCastSearch_seek 65 [(0, .ref 19), (1, .int x1), (2, .int x2), (3, .int x3), (4, .int x4)] [] F G Q := by
  intro X CX
  refine gw_aload_n CX.1 0 rfl dCastSearch_seek_65 rfl ?_
  refine gg_CastSearch_81 CX.1 rfl dCastSearch_seek_66 ?_
  refine gw_if_eq (tgt := 73) CX.1 dCastSearch_seek_69 (by decide) (fun c => ?_) (fun c => ?_)
  · replace H := H.1 c
    refine gw_iinc (v := (x4 + 1)) CX.1 4 rfl dCastSearch_seek_73 rfl (by decide) rfl ?_
    refine gw_goto (tgt := 35) CX.1 dCastSearch_seek_76 (by decide) ?_
    exact gw_sub [1, 2, 3, 4, 0] rfl (H X CX)
  · replace H := H.2 c
    exact gw_vret CX rfl ⟨_, _, rfl, rfl, H⟩ (Nat.zero_le _) (Nat.zero_le _) dCastSearch_seek_72
theorem eCastSearch_seek {D : va_G} {d : Nat} {Q : (Nat → Nat → Int32) → (Nat → Int64) → Prop} {F : Nat → Nat → Int32} {G : Nat → Int64} {a0 : Int32} {a1 : Int32} (H : AMi D d nShow_isTrack [.ref 2, .int a0] F G (fun x1_ F1 G1 => ((¬ x1_ = 0 → vp_in a0 8 ∧ AMi D d nCastSearch_barred [.ref 19, .int a0] F1 G1 (fun x2_ F2 G2 => AWv D (d + 1) nCastSearch_seek 35 [(0, .ref 19), (1, .int a0), (2, .int a1), (3, .int ((F1 19 a0.toNatClampNeg) &&& (x2_ ^^^ (-1)))), (4, .int 0)] [] F2 G2 Q)) ∧ (x1_ = 0 → AMv D d nCastSearch_keepIfLess [.ref 19, .int a1] F1 G1 (fun F3 G3 => Q F3 G3))))) : AMv D (d + 1) nCastSearch_seek [.ref 19, .int a0, .int a1] F G Q := by
  refine AM_intro (by decide) (Nat.le_of_ble_eq_true rfl) ?_
  intro X CX
  refine gw_aload_n CX.1 0 rfl dCastSearch_seek_0 rfl ?_
  refine gg_CastSearch_9 CX.1 rfl dCastSearch_seek_1 ?_
  refine gw_iload_n CX.1 1 rfl dCastSearch_seek_4 rfl ?_
  refine cl_Show_isTrack CX (Nat.le_of_ble_eq_true rfl) wm_CastSearch_90 dCastSearch_seek_5 H (fun x1_ F1 G1 H => ?_)
  refine gw_if_ne (tgt := 17) CX.1 dCastSearch_seek_8 (by decide) (fun c => ?_) (fun c => ?_)
  · replace H := H.1 c
    refine gw_aload_n CX.1 0 rfl dCastSearch_seek_17 rfl ?_
    refine gg_CastSearch_19 CX.1 rfl dCastSearch_seek_18 ?_
    refine gw_iload_n CX.1 1 rfl dCastSearch_seek_21 rfl ?_
    obtain ⟨hin, H⟩ := H
    refine ga_19 CX.1 hin dCastSearch_seek_22 ?_
    refine gw_aload_n CX.1 0 rfl dCastSearch_seek_23 rfl ?_
    refine gw_iload_n CX.1 1 rfl dCastSearch_seek_24 rfl ?_
    refine cl_CastSearch_barred CX (Nat.le_of_ble_eq_true rfl) wm_CastSearch_142 dCastSearch_seek_25 H (fun x2_ F2 G2 H => ?_)
    refine gw_iconst (v := (-1)) CX.1 dCastSearch_seek_28 (by decide) ?_
    refine gw_ixor CX.1 dCastSearch_seek_29 ?_
    refine gw_iand CX.1 dCastSearch_seek_30 ?_
    refine gw_istore_n CX.1 dCastSearch_seek_31 rfl (by decide) rfl ?_
    refine gw_iconst (v := 0) CX.1 dCastSearch_seek_32 (by decide) ?_
    refine gw_istore CX.1 dCastSearch_seek_33 (by decide) rfl ?_
    exact gw_sub [2, 3, 4, 1, 0] rfl (H X CX)
  · replace H := H.2 c
    refine gw_aload_n CX.1 0 rfl dCastSearch_seek_11 rfl ?_
    refine gw_iload_n CX.1 2 rfl dCastSearch_seek_12 rfl ?_
    refine cl_CastSearch_keepIfLess CX (Nat.le_of_ble_eq_true rfl) wm_CastSearch_139 dCastSearch_seek_13 H (fun F3 G3 H => ?_)
    exact gw_vret CX rfl ⟨_, _, rfl, rfl, H⟩ (Nat.zero_le _) (Nat.zero_le _) dCastSearch_seek_16
theorem eCastSearch_keepIfLess {D : va_G} {d : Nat} {Q : (Nat → Nat → Int32) → (Nat → Int64) → Prop} {F : Nat → Nat → Int32} {G : Nat → Int64} {a0 : Int32} (H : (((F 104 0) ≤ a0 → Q F G) ∧ (¬ ((F 104 0) ≤ a0) → (¬ (0 : Int32) < 0 ∧ ¬ (0 : Int32) < 0 ∧ ¬ (8 : Int32) < 0 ∧ (0 : Int32).toNatClampNeg + (8 : Int32).toNatClampNeg ≤ 8 ∧ (0 : Int32).toNatClampNeg + (8 : Int32).toNatClampNeg ≤ 8 ∧ (∀ i, i < (8 : Int32).toNatClampNeg → fits .int (.int ((upS F 104 a0) 25 ((0 : Int32).toNatClampNeg + i))) = true)) ∧ Q (upA (upS F 104 a0) 27 (va_cpy ((upS F 104 a0) 25) ((upS F 104 a0) 27) (0 : Int32).toNatClampNeg (0 : Int32).toNatClampNeg (8 : Int32).toNatClampNeg)) G))) : AMv D (d + 1) nCastSearch_keepIfLess [.ref 19, .int a0] F G Q := by
  refine AM_intro (by decide) (Nat.le_of_ble_eq_true rfl) ?_
  intro X CX
  refine gw_iload_n CX.1 1 rfl dCastSearch_keepIfLess_0 rfl ?_
  refine gw_aload_n CX.1 0 rfl dCastSearch_keepIfLess_1 rfl ?_
  refine gg_CastSearch_74 CX.1 rfl dCastSearch_keepIfLess_2 ?_
  refine gw_icmp_ge (tgt := 28) CX.1 dCastSearch_keepIfLess_5 (by decide) (fun c => ?_) (fun c => ?_)
  · replace H := H.1 c
    exact gw_vret CX rfl ⟨_, _, rfl, rfl, H⟩ (Nat.zero_le _) (Nat.zero_le _) dCastSearch_keepIfLess_28
  · replace H := H.2 c
    refine gw_aload_n CX.1 0 rfl dCastSearch_keepIfLess_8 rfl ?_
    refine gw_iload_n CX.1 1 rfl dCastSearch_keepIfLess_9 rfl ?_
    refine gp_CastSearch_74 CX.1 rfl dCastSearch_keepIfLess_10 ?_
    refine gw_aload_n CX.1 0 rfl dCastSearch_keepIfLess_13 rfl ?_
    refine gg_CastSearch_38 CX.1 rfl dCastSearch_keepIfLess_14 ?_
    refine gw_iconst (v := 0) CX.1 dCastSearch_keepIfLess_17 (by decide) ?_
    refine gw_aload_n CX.1 0 rfl dCastSearch_keepIfLess_18 rfl ?_
    refine gg_CastSearch_44 CX.1 rfl dCastSearch_keepIfLess_19 ?_
    refine gw_iconst (v := 0) CX.1 dCastSearch_keepIfLess_22 (by decide) ?_
    refine gw_bipush (v := 8) CX.1 dCastSearch_keepIfLess_23 (by decide) ?_
    obtain ⟨⟨h1, h2, h3, h4, h5, h6⟩, H⟩ := H
    refine gw_copy CX.1 mk_25 mk_27 rfl h1 h2 h3 h4 h5 h6 wm_CastSearch_152 wac_native wac_static wini_System (Nat.le_of_ble_eq_true rfl) (gCX_copy CX) dCastSearch_keepIfLess_25 ?_
    exact gw_vret CX rfl ⟨_, _, rfl, rfl, H⟩ (Nat.zero_le _) (Nat.zero_le _) dCastSearch_keepIfLess_28
theorem bCastSearch_barred_4 {D : va_G} {d : Nat} {Q : Int32 → (Nat → Nat → Int32) → (Nat → Int64) → Prop} {F : Nat → Nat → Int32} {G : Nat → Int64} {x1 : Int32} {x2 : Int32} {x3 : Int32} (H : ((x1 ≤ x3 → Q x2 F G) ∧ (¬ (x1 ≤ x3) → vp_in x3 8 ∧ (((F 25 x3.toNatClampNeg) = (-1000000005) → AWi D (d + 1) nCastSearch_barred 45 [(0, .ref 19), (1, .int x1), (2, .int x2), (3, .int x3), (4, .int (F 25 x3.toNatClampNeg))] [] F G Q) ∧ (¬ ((F 25 x3.toNatClampNeg) = (-1000000005)) → vp_in x1 8 ∧ ((¬ (((F 20 x1.toNatClampNeg) >>> (x3 &&& 31)) &&& 1) = 1 → AWi D (d + 1) nCastSearch_barred 45 [(0, .ref 19), (1, .int x1), (2, .int x2), (3, .int x3), (4, .int (F 25 x3.toNatClampNeg))] [] F G Q) ∧ ((((F 20 x1.toNatClampNeg) >>> (x3 &&& 31)) &&& 1) = 1 → AWi D (d + 1) nCastSearch_barred 45 [(0, .ref 19), (1, .int x1), (2, .int (x2 ||| (1 <<< ((F 25 x3.toNatClampNeg) &&& 31)))), (3, .int x3), (4, .int (F 25 x3.toNatClampNeg))] [] F G Q))))))) : AWi D (d + 1) nCastSearch_barred 4 [(0, .ref 19), (1, .int x1), (2, .int x2), (3, .int x3)] [] F G Q := by
  intro X CX
  refine gw_iload_n CX.1 3 rfl dCastSearch_barred_4 rfl ?_
  refine gw_iload_n CX.1 1 rfl dCastSearch_barred_5 rfl ?_
  refine gw_icmp_ge (tgt := 84) CX.1 dCastSearch_barred_6 (by decide) (fun c => ?_) (fun c => ?_)
  · replace H := H.1 c
    refine gw_iload_n CX.1 2 rfl dCastSearch_barred_84 rfl ?_
    exact gw_iret CX rfl rfl ⟨_, _, _, rfl, rfl, H⟩ (Nat.zero_le _) (Nat.zero_le _) dCastSearch_barred_85
  · replace H := H.2 c
    refine gw_aload_n CX.1 0 rfl dCastSearch_barred_9 rfl ?_
    refine gg_CastSearch_38 CX.1 rfl dCastSearch_barred_10 ?_
    refine gw_iload_n CX.1 3 rfl dCastSearch_barred_13 rfl ?_
    obtain ⟨hin, H⟩ := H
    refine ga_25 CX.1 hin dCastSearch_barred_14 ?_
    refine gw_istore CX.1 dCastSearch_barred_15 (by decide) rfl ?_
    refine gw_iload CX.1 0 rfl dCastSearch_barred_17 ?_
    refine gw_ldc CX.1 wc_CastSearch_94 dCastSearch_barred_19 ?_
    refine gw_icmp_eq (tgt := 45) CX.1 dCastSearch_barred_21 (by decide) (fun c => ?_) (fun c => ?_)
    · replace H := H.1 c
      exact gw_sub [1, 2, 3, 4, 0] rfl (H X CX)
    · replace H := H.2 c
      refine gw_aload_n CX.1 1 rfl dCastSearch_barred_24 rfl ?_
      refine gg_CastSearch_23 CX.1 rfl dCastSearch_barred_25 ?_
      refine gw_iload_n CX.1 2 rfl dCastSearch_barred_28 rfl ?_
      obtain ⟨hin, H⟩ := H
      refine ga_20 CX.1 hin dCastSearch_barred_29 ?_
      refine gw_iload_n CX.1 4 rfl dCastSearch_barred_30 rfl ?_
      refine gw_ishr CX.1 dCastSearch_barred_31 ?_
      refine gw_iconst (v := 1) CX.1 dCastSearch_barred_32 (by decide) ?_
      refine gw_iand CX.1 dCastSearch_barred_33 ?_
      refine gw_iconst (v := 1) CX.1 dCastSearch_barred_34 (by decide) ?_
      refine gw_icmp_ne (tgt := 45) CX.1 dCastSearch_barred_35 (by decide) (fun c => ?_) (fun c => ?_)
      · replace H := H.1 c
        exact gw_sub [1, 2, 3, 4, 0] rfl (H X CX)
      · replace H := H.2 c
        refine gw_iload_n CX.1 3 rfl dCastSearch_barred_38 rfl ?_
        refine gw_iconst (v := 1) CX.1 dCastSearch_barred_39 (by decide) ?_
        refine gw_iload CX.1 0 rfl dCastSearch_barred_40 ?_
        refine gw_ishl CX.1 dCastSearch_barred_42 ?_
        refine gw_ior CX.1 dCastSearch_barred_43 ?_
        refine gw_istore_n CX.1 dCastSearch_barred_44 rfl (by decide) rfl ?_
        exact gw_sub [2, 3, 0, 4, 1] rfl (H X CX)
theorem bCastSearch_barred_45 {D : va_G} {d : Nat} {Q : Int32 → (Nat → Nat → Int32) → (Nat → Int64) → Prop} {F : Nat → Nat → Int32} {G : Nat → Int64} {x1 : Int32} {x2 : Int32} {x3 : Int32} {x4 : Int32} (H : ((x4 = (-1000000005) → AWi D (d + 1) nCastSearch_barred 4 [(0, .ref 19), (1, .int x1), (2, .int x2), (3, .int (x3 + 1))] [] F G Q) ∧ (¬ (x4 = (-1000000005)) → vp_in x1 8 ∧ ((¬ (((F 21 x1.toNatClampNeg) >>> (x3 &&& 31)) &&& 1) = 1 → AWi D (d + 1) nCastSearch_barred 4 [(0, .ref 19), (1, .int x1), (2, .int x2), (3, .int (x3 + 1))] [] F G Q) ∧ ((((F 21 x1.toNatClampNeg) >>> (x3 &&& 31)) &&& 1) = 1 → AMi D d nCompany_foesOf [.ref 8, .int x4] F G (fun x1_ F1 G1 => AWi D (d + 1) nCastSearch_barred 4 [(0, .ref 19), (1, .int x1), (2, .int (x2 ||| x1_)), (3, .int (x3 + 1))] [] F1 G1 Q)))))) : AWi D (d + 1) nCastSearch_barred 45 [(0, .ref 19), (1, .int x1), (2, .int x2), (3, .int x3), (4, .int x4)] [] F G Q := by
  intro X CX
  refine gw_iload CX.1 4 rfl dCastSearch_barred_45 ?_
  refine gw_ldc CX.1 wc_CastSearch_94 dCastSearch_barred_47 ?_
  refine gw_icmp_eq (tgt := 78) CX.1 dCastSearch_barred_49 (by decide) (fun c => ?_) (fun c => ?_)
  · replace H := H.1 c
    refine gw_iinc (v := (x3 + 1)) CX.1 3 rfl dCastSearch_barred_78 rfl (by decide) rfl ?_
    refine gw_goto (tgt := 4) CX.1 dCastSearch_barred_81 (by decide) ?_
    exact gw_sub [1, 2, 3, 0] rfl (H X CX)
  · replace H := H.2 c
    refine gw_aload_n CX.1 0 rfl dCastSearch_barred_52 rfl ?_
    refine gg_CastSearch_26 CX.1 rfl dCastSearch_barred_53 ?_
    refine gw_iload_n CX.1 1 rfl dCastSearch_barred_56 rfl ?_
    obtain ⟨hin, H⟩ := H
    refine ga_21 CX.1 hin dCastSearch_barred_57 ?_
    refine gw_iload_n CX.1 3 rfl dCastSearch_barred_58 rfl ?_
    refine gw_ishr CX.1 dCastSearch_barred_59 ?_
    refine gw_iconst (v := 1) CX.1 dCastSearch_barred_60 (by decide) ?_
    refine gw_iand CX.1 dCastSearch_barred_61 ?_
    refine gw_iconst (v := 1) CX.1 dCastSearch_barred_62 (by decide) ?_
    refine gw_icmp_ne (tgt := 78) CX.1 dCastSearch_barred_63 (by decide) (fun c => ?_) (fun c => ?_)
    · replace H := H.1 c
      refine gw_iinc (v := (x3 + 1)) CX.1 3 rfl dCastSearch_barred_78 rfl (by decide) rfl ?_
      refine gw_goto (tgt := 4) CX.1 dCastSearch_barred_81 (by decide) ?_
      exact gw_sub [1, 2, 3, 0] rfl (H X CX)
    · replace H := H.2 c
      refine gw_iload_n CX.1 2 rfl dCastSearch_barred_66 rfl ?_
      refine gw_aload_n CX.1 0 rfl dCastSearch_barred_67 rfl ?_
      refine gg_CastSearch_15 CX.1 rfl dCastSearch_barred_68 ?_
      refine gw_iload CX.1 4 rfl dCastSearch_barred_71 ?_
      refine cl_Company_foesOf CX (Nat.le_of_ble_eq_true rfl) wm_CastSearch_158 dCastSearch_barred_73 H (fun x1_ F1 G1 H => ?_)
      refine gw_ior CX.1 dCastSearch_barred_76 ?_
      refine gw_istore_n CX.1 dCastSearch_barred_77 rfl (by decide) rfl ?_
      refine gw_iinc (v := (x3 + 1)) CX.1 3 rfl dCastSearch_barred_78 rfl (by decide) rfl ?_
      refine gw_goto (tgt := 4) CX.1 dCastSearch_barred_81 (by decide) ?_
      exact gw_sub [2, 3, 1, 0] rfl (H X CX)
theorem eCastSearch_barred {D : va_G} {d : Nat} {Q : Int32 → (Nat → Nat → Int32) → (Nat → Int64) → Prop} {F : Nat → Nat → Int32} {G : Nat → Int64} {a0 : Int32} (H : AWi D (d + 1) nCastSearch_barred 4 [(0, .ref 19), (1, .int a0), (2, .int 0), (3, .int 0)] [] F G Q) : AMi D (d + 1) nCastSearch_barred [.ref 19, .int a0] F G Q := by
  refine AM_intro (by decide) (Nat.le_of_ble_eq_true rfl) ?_
  intro X CX
  refine gw_iconst (v := 0) CX.1 dCastSearch_barred_0 (by decide) ?_
  refine gw_istore_n CX.1 dCastSearch_barred_1 rfl (by decide) rfl ?_
  refine gw_iconst (v := 0) CX.1 dCastSearch_barred_2 (by decide) ?_
  refine gw_istore_n CX.1 dCastSearch_barred_3 rfl (by decide) rfl ?_
  exact gw_sub [2, 3, 1, 0] rfl (H X CX)
theorem bCastSearch_tryPerson_44 {D : va_G} {d : Nat} {Q : (Nat → Nat → Int32) → (Nat → Int64) → Prop} {F : Nat → Nat → Int32} {G : Nat → Int64} {x1 : Int32} {x2 : Int32} {x3 : Int32} {s0 : Int32} (H : vp_in x2 10 ∧ vp_in x2 10 ∧ vp_in ((x1 * 10) + x2) 80 ∧ AMi D d nCastSearch_liftLoss [.ref 19, .int x1] (up F 26 (x2.toNatClampNeg) ((F 26 x2.toNatClampNeg) + 1)) G (fun x1_ F1 G1 => AMv D d nCastSearch_seek [.ref 19, .int (x1 + 1), .int (((x3 + ((up F 26 (x2.toNatClampNeg) ((F 26 x2.toNatClampNeg) + 1)) 23 ((x1 * 10) + x2).toNatClampNeg)) + s0) + x1_)] F1 G1 (fun F2 G2 => vp_in x2 10 ∧ vp_in x2 10 ∧ Q (up F2 26 (x2.toNatClampNeg) ((F2 26 x2.toNatClampNeg) - 1)) G2))) : AWv D (d + 1) nCastSearch_tryPerson 44 [(0, .ref 19), (1, .int x1), (2, .int x2), (3, .int x3)] [.int s0] F G Q := by
  intro X CX
  refine gw_istore CX.1 dCastSearch_tryPerson_44 (by decide) rfl ?_
  refine gw_aload_n CX.1 1 rfl dCastSearch_tryPerson_46 rfl ?_
  refine gg_CastSearch_41 CX.1 rfl dCastSearch_tryPerson_47 ?_
  refine gw_iload_n CX.1 3 rfl dCastSearch_tryPerson_50 rfl ?_
  refine gw_dup2 CX.1 dCastSearch_tryPerson_51 rfl rfl ?_
  obtain ⟨hin, H⟩ := H
  refine ga_26 CX.1 hin dCastSearch_tryPerson_52 ?_
  refine gw_iconst (v := 1) CX.1 dCastSearch_tryPerson_53 (by decide) ?_
  refine gw_iadd CX.1 dCastSearch_tryPerson_54 ?_
  obtain ⟨hin, H⟩ := H
  refine gs_26 CX.1 hin dCastSearch_tryPerson_55 ?_
  refine gw_aload_n CX.1 1 rfl dCastSearch_tryPerson_56 rfl ?_
  refine gw_iload_n CX.1 2 rfl dCastSearch_tryPerson_57 rfl ?_
  refine gw_iconst (v := 1) CX.1 dCastSearch_tryPerson_58 (by decide) ?_
  refine gw_iadd CX.1 dCastSearch_tryPerson_59 ?_
  refine gw_iload_n CX.1 4 rfl dCastSearch_tryPerson_60 rfl ?_
  refine gw_aload_n CX.1 1 rfl dCastSearch_tryPerson_61 rfl ?_
  refine gg_CastSearch_32 CX.1 rfl dCastSearch_tryPerson_62 ?_
  refine gw_iload_n CX.1 2 rfl dCastSearch_tryPerson_65 rfl ?_
  refine gw_bipush (v := 10) CX.1 dCastSearch_tryPerson_66 (by decide) ?_
  refine gw_imul CX.1 dCastSearch_tryPerson_68 ?_
  refine gw_iload_n CX.1 3 rfl dCastSearch_tryPerson_69 rfl ?_
  refine gw_iadd CX.1 dCastSearch_tryPerson_70 ?_
  obtain ⟨hin, H⟩ := H
  refine ga_23 CX.1 hin dCastSearch_tryPerson_71 ?_
  refine gw_iadd CX.1 dCastSearch_tryPerson_72 ?_
  refine gw_iload CX.1 0 rfl dCastSearch_tryPerson_73 ?_
  refine gw_iadd CX.1 dCastSearch_tryPerson_75 ?_
  refine gw_aload_n CX.1 1 rfl dCastSearch_tryPerson_76 rfl ?_
  refine gw_iload_n CX.1 2 rfl dCastSearch_tryPerson_77 rfl ?_
  refine cl_CastSearch_liftLoss CX (Nat.le_of_ble_eq_true rfl) wm_CastSearch_149 dCastSearch_tryPerson_78 H (fun x1_ F1 G1 H => ?_)
  refine gw_iadd CX.1 dCastSearch_tryPerson_81 ?_
  refine cl_CastSearch_seek CX (Nat.le_of_ble_eq_true rfl) wm_CastSearch_85 dCastSearch_tryPerson_82 H (fun F2 G2 H => ?_)
  refine gw_aload_n CX.1 1 rfl dCastSearch_tryPerson_85 rfl ?_
  refine gg_CastSearch_41 CX.1 rfl dCastSearch_tryPerson_86 ?_
  refine gw_iload_n CX.1 3 rfl dCastSearch_tryPerson_89 rfl ?_
  refine gw_dup2 CX.1 dCastSearch_tryPerson_90 rfl rfl ?_
  obtain ⟨hin, H⟩ := H
  refine ga_26 CX.1 hin dCastSearch_tryPerson_91 ?_
  refine gw_iconst (v := 1) CX.1 dCastSearch_tryPerson_92 (by decide) ?_
  refine gw_isub CX.1 dCastSearch_tryPerson_93 ?_
  obtain ⟨hin, H⟩ := H
  refine gs_26 CX.1 hin dCastSearch_tryPerson_94 ?_
  exact gw_vret CX rfl ⟨_, _, rfl, rfl, H⟩ (Nat.zero_le _) (Nat.zero_le _) dCastSearch_tryPerson_95
theorem eCastSearch_tryPerson {D : va_G} {d : Nat} {Q : (Nat → Nat → Int32) → (Nat → Int64) → Prop} {F : Nat → Nat → Int32} {G : Nat → Int64} {a0 : Int32} {a1 : Int32} {a2 : Int32} (H : ((0 < (F 105 0) → vp_in a0 8 ∧ vp_in a1 10 ∧ ((((up (upS F 105 ((F 105 0) - 1)) 25 (a0.toNatClampNeg) a1) 26 a1.toNatClampNeg) ≤ 0 → AWv D (d + 1) nCastSearch_tryPerson 44 [(0, .ref 19), (1, .int a0), (2, .int a1), (3, .int a2)] [.int 0] (up (upS F 105 ((F 105 0) - 1)) 25 (a0.toNatClampNeg) a1) G Q) ∧ (¬ (((up (upS F 105 ((F 105 0) - 1)) 25 (a0.toNatClampNeg) a1) 26 a1.toNatClampNeg) ≤ 0) → AWv D (d + 1) nCastSearch_tryPerson 44 [(0, .ref 19), (1, .int a0), (2, .int a1), (3, .int a2)] [.int 4] (up (upS F 105 ((F 105 0) - 1)) 25 (a0.toNatClampNeg) a1) G Q))) ∧ (¬ (0 < (F 105 0)) → Q (upS F 106 1) G))) : AMv D (d + 1) nCastSearch_tryPerson [.ref 19, .int a0, .int a1, .int a2] F G Q := by
  refine AM_intro (by decide) (Nat.le_of_ble_eq_true rfl) ?_
  intro X CX
  refine gw_aload_n CX.1 0 rfl dCastSearch_tryPerson_0 rfl ?_
  refine gg_CastSearch_78 CX.1 rfl dCastSearch_tryPerson_1 ?_
  refine gw_if_gt (tgt := 13) CX.1 dCastSearch_tryPerson_4 (by decide) (fun c => ?_) (fun c => ?_)
  · replace H := H.1 c
    refine gw_aload_n CX.1 0 rfl dCastSearch_tryPerson_13 rfl ?_
    refine gw_dup CX.1 dCastSearch_tryPerson_14 rfl ?_
    refine gg_CastSearch_78 CX.1 rfl dCastSearch_tryPerson_15 ?_
    refine gw_iconst (v := 1) CX.1 dCastSearch_tryPerson_18 (by decide) ?_
    refine gw_isub CX.1 dCastSearch_tryPerson_19 ?_
    refine gp_CastSearch_78 CX.1 rfl dCastSearch_tryPerson_20 ?_
    refine gw_aload_n CX.1 0 rfl dCastSearch_tryPerson_23 rfl ?_
    refine gg_CastSearch_38 CX.1 rfl dCastSearch_tryPerson_24 ?_
    refine gw_iload_n CX.1 1 rfl dCastSearch_tryPerson_27 rfl ?_
    refine gw_iload_n CX.1 2 rfl dCastSearch_tryPerson_28 rfl ?_
    obtain ⟨hin, H⟩ := H
    refine gs_25 CX.1 hin dCastSearch_tryPerson_29 ?_
    refine gw_aload_n CX.1 0 rfl dCastSearch_tryPerson_30 rfl ?_
    refine gg_CastSearch_41 CX.1 rfl dCastSearch_tryPerson_31 ?_
    refine gw_iload_n CX.1 2 rfl dCastSearch_tryPerson_34 rfl ?_
    obtain ⟨hin, H⟩ := H
    refine ga_26 CX.1 hin dCastSearch_tryPerson_35 ?_
    refine gw_if_le (tgt := 43) CX.1 dCastSearch_tryPerson_36 (by decide) (fun c => ?_) (fun c => ?_)
    · replace H := H.1 c
      refine gw_iconst (v := 0) CX.1 dCastSearch_tryPerson_43 (by decide) ?_
      exact H X CX
    · replace H := H.2 c
      refine gw_iconst (v := 4) CX.1 dCastSearch_tryPerson_39 (by decide) ?_
      refine gw_goto (tgt := 44) CX.1 dCastSearch_tryPerson_40 (by decide) ?_
      exact H X CX
  · replace H := H.2 c
    refine gw_aload_n CX.1 0 rfl dCastSearch_tryPerson_7 rfl ?_
    refine gw_iconst (v := 1) CX.1 dCastSearch_tryPerson_8 (by decide) ?_
    refine gp_CastSearch_81 CX.1 rfl (by decide) dCastSearch_tryPerson_9 ?_
    exact gw_vret CX rfl ⟨_, _, rfl, rfl, H⟩ (Nat.zero_le _) (Nat.zero_le _) dCastSearch_tryPerson_12
theorem bCastSearch_liftLoss_4 {D : va_G} {d : Nat} {Q : Int32 → (Nat → Nat → Int32) → (Nat → Int64) → Prop} {F : Nat → Nat → Int32} {G : Nat → Int64} {x1 : Int32} {x2 : Int32} {x3 : Int32} (H : ((x1 ≤ x3 → Q x2 F G) ∧ (¬ (x1 ≤ x3) → vp_in ((x1 * 8) + x3) 64 ∧ vp_in ((x3 * 8) + x1) 64 ∧ (((F 24 ((x1 * 8) + x3).toNatClampNeg) ≤ 0 → AWi D (d + 1) nCastSearch_liftLoss 72 [(0, .ref 19), (1, .int x1), (2, .int x2), (3, .int x3), (4, .int (F 24 ((x1 * 8) + x3).toNatClampNeg)), (5, .int (F 24 ((x3 * 8) + x1).toNatClampNeg))] [] F G Q) ∧ (¬ ((F 24 ((x1 * 8) + x3).toNatClampNeg) ≤ 0) → vp_in x1 8 ∧ vp_in x3 8 ∧ AMi D d nCompany_doLift [.ref 8, .int (F 25 x1.toNatClampNeg), .int x1, .int (F 25 x3.toNatClampNeg), .int x3] F G (fun x1_ F1 G1 => ((¬ x1_ = 0 → AWi D (d + 1) nCastSearch_liftLoss 72 [(0, .ref 19), (1, .int x1), (2, .int x2), (3, .int x3), (4, .int (F 24 ((x1 * 8) + x3).toNatClampNeg)), (5, .int (F 24 ((x3 * 8) + x1).toNatClampNeg))] [] F1 G1 Q) ∧ (x1_ = 0 → AWi D (d + 1) nCastSearch_liftLoss 72 [(0, .ref 19), (1, .int x1), (2, .int (x2 + ((F 24 ((x1 * 8) + x3).toNatClampNeg) * 6))), (3, .int x3), (4, .int (F 24 ((x1 * 8) + x3).toNatClampNeg)), (5, .int (F 24 ((x3 * 8) + x1).toNatClampNeg))] [] F1 G1 Q)))))))) : AWi D (d + 1) nCastSearch_liftLoss 4 [(0, .ref 19), (1, .int x1), (2, .int x2), (3, .int x3)] [] F G Q := by
  intro X CX
  refine gw_iload_n CX.1 3 rfl dCastSearch_liftLoss_4 rfl ?_
  refine gw_iload_n CX.1 1 rfl dCastSearch_liftLoss_5 rfl ?_
  refine gw_icmp_ge (tgt := 115) CX.1 dCastSearch_liftLoss_6 (by decide) (fun c => ?_) (fun c => ?_)
  · replace H := H.1 c
    refine gw_iload_n CX.1 2 rfl dCastSearch_liftLoss_115 rfl ?_
    exact gw_iret CX rfl rfl ⟨_, _, _, rfl, rfl, H⟩ (Nat.zero_le _) (Nat.zero_le _) dCastSearch_liftLoss_116
  · replace H := H.2 c
    refine gw_aload_n CX.1 0 rfl dCastSearch_liftLoss_9 rfl ?_
    refine gg_CastSearch_35 CX.1 rfl dCastSearch_liftLoss_10 ?_
    refine gw_iload_n CX.1 1 rfl dCastSearch_liftLoss_13 rfl ?_
    refine gw_bipush (v := 8) CX.1 dCastSearch_liftLoss_14 (by decide) ?_
    refine gw_imul CX.1 dCastSearch_liftLoss_16 ?_
    refine gw_iload_n CX.1 3 rfl dCastSearch_liftLoss_17 rfl ?_
    refine gw_iadd CX.1 dCastSearch_liftLoss_18 ?_
    obtain ⟨hin, H⟩ := H
    refine ga_24 CX.1 hin dCastSearch_liftLoss_19 ?_
    refine gw_istore CX.1 dCastSearch_liftLoss_20 (by decide) rfl ?_
    refine gw_aload_n CX.1 1 rfl dCastSearch_liftLoss_22 rfl ?_
    refine gg_CastSearch_35 CX.1 rfl dCastSearch_liftLoss_23 ?_
    refine gw_iload_n CX.1 4 rfl dCastSearch_liftLoss_26 rfl ?_
    refine gw_bipush (v := 8) CX.1 dCastSearch_liftLoss_27 (by decide) ?_
    refine gw_imul CX.1 dCastSearch_liftLoss_29 ?_
    refine gw_iload_n CX.1 2 rfl dCastSearch_liftLoss_30 rfl ?_
    refine gw_iadd CX.1 dCastSearch_liftLoss_31 ?_
    obtain ⟨hin, H⟩ := H
    refine ga_24 CX.1 hin dCastSearch_liftLoss_32 ?_
    refine gw_istore CX.1 dCastSearch_liftLoss_33 (by decide) rfl ?_
    refine gw_iload CX.1 1 rfl dCastSearch_liftLoss_35 ?_
    refine gw_if_le (tgt := 72) CX.1 dCastSearch_liftLoss_37 (by decide) (fun c => ?_) (fun c => ?_)
    · replace H := H.1 c
      exact gw_sub [2, 3, 4, 5, 1, 0] rfl (H X CX)
    · replace H := H.2 c
      refine gw_aload_n CX.1 2 rfl dCastSearch_liftLoss_40 rfl ?_
      refine gg_CastSearch_15 CX.1 rfl dCastSearch_liftLoss_41 ?_
      refine gw_aload_n CX.1 2 rfl dCastSearch_liftLoss_44 rfl ?_
      refine gg_CastSearch_38 CX.1 rfl dCastSearch_liftLoss_45 ?_
      refine gw_iload_n CX.1 3 rfl dCastSearch_liftLoss_48 rfl ?_
      obtain ⟨hin, H⟩ := H
      refine ga_25 CX.1 hin dCastSearch_liftLoss_49 ?_
      refine gw_iload_n CX.1 3 rfl dCastSearch_liftLoss_50 rfl ?_
      refine gw_aload_n CX.1 2 rfl dCastSearch_liftLoss_51 rfl ?_
      refine gg_CastSearch_38 CX.1 rfl dCastSearch_liftLoss_52 ?_
      refine gw_iload_n CX.1 5 rfl dCastSearch_liftLoss_55 rfl ?_
      obtain ⟨hin, H⟩ := H
      refine ga_25 CX.1 hin dCastSearch_liftLoss_56 ?_
      refine gw_iload_n CX.1 5 rfl dCastSearch_liftLoss_57 rfl ?_
      refine cl_Company_doLift CX (Nat.le_of_ble_eq_true rfl) wm_CastSearch_161 dCastSearch_liftLoss_58 H (fun x1_ F1 G1 H => ?_)
      refine gw_if_ne (tgt := 72) CX.1 dCastSearch_liftLoss_61 (by decide) (fun c => ?_) (fun c => ?_)
      · replace H := H.1 c
        exact gw_sub [2, 3, 4, 5, 1, 0] rfl (H X CX)
      · replace H := H.2 c
        refine gw_iload_n CX.1 4 rfl dCastSearch_liftLoss_64 rfl ?_
        refine gw_iload CX.1 1 rfl dCastSearch_liftLoss_65 ?_
        refine gw_bipush (v := 6) CX.1 dCastSearch_liftLoss_67 (by decide) ?_
        refine gw_imul CX.1 dCastSearch_liftLoss_69 ?_
        refine gw_iadd CX.1 dCastSearch_liftLoss_70 ?_
        refine gw_istore_n CX.1 dCastSearch_liftLoss_71 rfl (by decide) rfl ?_
        exact gw_sub [3, 4, 0, 5, 2, 1] rfl (H X CX)
theorem bCastSearch_liftLoss_72 {D : va_G} {d : Nat} {Q : Int32 → (Nat → Nat → Int32) → (Nat → Int64) → Prop} {F : Nat → Nat → Int32} {G : Nat → Int64} {x1 : Int32} {x2 : Int32} {x3 : Int32} {x4 : Int32} {x5 : Int32} (H : ((x5 ≤ 0 → AWi D (d + 1) nCastSearch_liftLoss 4 [(0, .ref 19), (1, .int x1), (2, .int x2), (3, .int (x3 + 1))] [] F G Q) ∧ (¬ (x5 ≤ 0) → vp_in x3 8 ∧ vp_in x1 8 ∧ AMi D d nCompany_doLift [.ref 8, .int (F 25 x3.toNatClampNeg), .int x3, .int (F 25 x1.toNatClampNeg), .int x1] F G (fun x1_ F1 G1 => ((¬ x1_ = 0 → AWi D (d + 1) nCastSearch_liftLoss 4 [(0, .ref 19), (1, .int x1), (2, .int x2), (3, .int (x3 + 1))] [] F1 G1 Q) ∧ (x1_ = 0 → AWi D (d + 1) nCastSearch_liftLoss 4 [(0, .ref 19), (1, .int x1), (2, .int (x2 + (x5 * 6))), (3, .int (x3 + 1))] [] F1 G1 Q)))))) : AWi D (d + 1) nCastSearch_liftLoss 72 [(0, .ref 19), (1, .int x1), (2, .int x2), (3, .int x3), (4, .int x4), (5, .int x5)] [] F G Q := by
  intro X CX
  refine gw_iload CX.1 5 rfl dCastSearch_liftLoss_72 ?_
  refine gw_if_le (tgt := 109) CX.1 dCastSearch_liftLoss_74 (by decide) (fun c => ?_) (fun c => ?_)
  · replace H := H.1 c
    refine gw_iinc (v := (x3 + 1)) CX.1 3 rfl dCastSearch_liftLoss_109 rfl (by decide) rfl ?_
    refine gw_goto (tgt := 4) CX.1 dCastSearch_liftLoss_112 (by decide) ?_
    exact gw_sub [1, 2, 3, 0] rfl (H X CX)
  · replace H := H.2 c
    refine gw_aload_n CX.1 0 rfl dCastSearch_liftLoss_77 rfl ?_
    refine gg_CastSearch_15 CX.1 rfl dCastSearch_liftLoss_78 ?_
    refine gw_aload_n CX.1 0 rfl dCastSearch_liftLoss_81 rfl ?_
    refine gg_CastSearch_38 CX.1 rfl dCastSearch_liftLoss_82 ?_
    refine gw_iload_n CX.1 3 rfl dCastSearch_liftLoss_85 rfl ?_
    obtain ⟨hin, H⟩ := H
    refine ga_25 CX.1 hin dCastSearch_liftLoss_86 ?_
    refine gw_iload_n CX.1 3 rfl dCastSearch_liftLoss_87 rfl ?_
    refine gw_aload_n CX.1 0 rfl dCastSearch_liftLoss_88 rfl ?_
    refine gg_CastSearch_38 CX.1 rfl dCastSearch_liftLoss_89 ?_
    refine gw_iload_n CX.1 1 rfl dCastSearch_liftLoss_92 rfl ?_
    obtain ⟨hin, H⟩ := H
    refine ga_25 CX.1 hin dCastSearch_liftLoss_93 ?_
    refine gw_iload_n CX.1 1 rfl dCastSearch_liftLoss_94 rfl ?_
    refine cl_Company_doLift CX (Nat.le_of_ble_eq_true rfl) wm_CastSearch_161 dCastSearch_liftLoss_95 H (fun x1_ F1 G1 H => ?_)
    refine gw_if_ne (tgt := 109) CX.1 dCastSearch_liftLoss_98 (by decide) (fun c => ?_) (fun c => ?_)
    · replace H := H.1 c
      refine gw_iinc (v := (x3 + 1)) CX.1 3 rfl dCastSearch_liftLoss_109 rfl (by decide) rfl ?_
      refine gw_goto (tgt := 4) CX.1 dCastSearch_liftLoss_112 (by decide) ?_
      exact gw_sub [1, 2, 3, 0] rfl (H X CX)
    · replace H := H.2 c
      refine gw_iload_n CX.1 2 rfl dCastSearch_liftLoss_101 rfl ?_
      refine gw_iload CX.1 5 rfl dCastSearch_liftLoss_102 ?_
      refine gw_bipush (v := 6) CX.1 dCastSearch_liftLoss_104 (by decide) ?_
      refine gw_imul CX.1 dCastSearch_liftLoss_106 ?_
      refine gw_iadd CX.1 dCastSearch_liftLoss_107 ?_
      refine gw_istore_n CX.1 dCastSearch_liftLoss_108 rfl (by decide) rfl ?_
      refine gw_iinc (v := (x3 + 1)) CX.1 3 rfl dCastSearch_liftLoss_109 rfl (by decide) rfl ?_
      refine gw_goto (tgt := 4) CX.1 dCastSearch_liftLoss_112 (by decide) ?_
      exact gw_sub [2, 3, 1, 0] rfl (H X CX)
theorem eCastSearch_liftLoss {D : va_G} {d : Nat} {Q : Int32 → (Nat → Nat → Int32) → (Nat → Int64) → Prop} {F : Nat → Nat → Int32} {G : Nat → Int64} {a0 : Int32} (H : AWi D (d + 1) nCastSearch_liftLoss 4 [(0, .ref 19), (1, .int a0), (2, .int 0), (3, .int 0)] [] F G Q) : AMi D (d + 1) nCastSearch_liftLoss [.ref 19, .int a0] F G Q := by
  refine AM_intro (by decide) (Nat.le_of_ble_eq_true rfl) ?_
  intro X CX
  refine gw_iconst (v := 0) CX.1 dCastSearch_liftLoss_0 (by decide) ?_
  refine gw_istore_n CX.1 dCastSearch_liftLoss_1 rfl (by decide) rfl ?_
  refine gw_iconst (v := 0) CX.1 dCastSearch_liftLoss_2 (by decide) ?_
  refine gw_istore_n CX.1 dCastSearch_liftLoss_3 rfl (by decide) rfl ?_
  exact gw_sub [2, 3, 1, 0] rfl (H X CX)
theorem eCastSearch_bestAt {D : va_G} {d : Nat} {Q : Int32 → (Nat → Nat → Int32) → (Nat → Int64) → Prop} {F : Nat → Nat → Int32} {G : Nat → Int64} {a0 : Int32} (H : AMi D d nShow_isTrack [.ref 2, .int a0] F G (fun x1_ F1 G1 => ((x1_ = 0 → Q (-1000000005) F1 G1) ∧ (¬ (x1_ = 0) → vp_in a0 8 ∧ Q (F1 27 a0.toNatClampNeg) F1 G1)))) : AMi D (d + 1) nCastSearch_bestAt [.ref 19, .int a0] F G Q := by
  refine AM_intro (by decide) (Nat.le_of_ble_eq_true rfl) ?_
  intro X CX
  refine gw_aload_n CX.1 0 rfl dCastSearch_bestAt_0 rfl ?_
  refine gg_CastSearch_9 CX.1 rfl dCastSearch_bestAt_1 ?_
  refine gw_iload_n CX.1 1 rfl dCastSearch_bestAt_4 rfl ?_
  refine cl_Show_isTrack CX (Nat.le_of_ble_eq_true rfl) wm_CastSearch_90 dCastSearch_bestAt_5 H (fun x1_ F1 G1 H => ?_)
  refine gw_if_eq (tgt := 20) CX.1 dCastSearch_bestAt_8 (by decide) (fun c => ?_) (fun c => ?_)
  · replace H := H.1 c
    refine gw_ldc CX.1 wc_CastSearch_94 dCastSearch_bestAt_20 ?_
    exact gw_iret CX rfl rfl ⟨_, _, _, rfl, rfl, H⟩ (Nat.zero_le _) (Nat.zero_le _) dCastSearch_bestAt_22
  · replace H := H.2 c
    refine gw_aload_n CX.1 0 rfl dCastSearch_bestAt_11 rfl ?_
    refine gg_CastSearch_44 CX.1 rfl dCastSearch_bestAt_12 ?_
    refine gw_iload_n CX.1 1 rfl dCastSearch_bestAt_15 rfl ?_
    obtain ⟨hin, H⟩ := H
    refine ga_27 CX.1 hin dCastSearch_bestAt_16 ?_
    refine gw_goto (tgt := 22) CX.1 dCastSearch_bestAt_17 (by decide) ?_
    exact gw_iret CX rfl rfl ⟨_, _, _, rfl, rfl, H⟩ (Nat.zero_le _) (Nat.zero_le _) dCastSearch_bestAt_22
theorem bPutIns_find_32 {D : va_G} {d : Nat} {Q : Int32 → (Nat → Nat → Int32) → (Nat → Int64) → Prop} {F : Nat → Nat → Int32} {G : Nat → Int64} {x1 : Int64} {x3 : Int32} (H : AMi D d nCompany_people [.ref 8] F G (fun x1_ F1 G1 => ((x1_ ≤ x3 → AMl D d nPutIns_leastWorth [.ref 29] F1 G1 (fun x2_ F2 G2 => (((lg_cmp x2_ 3486784401000000) = 0 → Q 0 F2 G2) ∧ (¬ ((lg_cmp x2_ 3486784401000000) = 0) → Q 1 F2 G2)))) ∧ (¬ (x1_ ≤ x3) → AMv D d nPutIns_addPerson [.ref 29, .int x3, .long x1] F1 G1 (fun F3 G3 => AWi D (d + 1) nPutIns_find 32 [(0, .ref 29), (1, .long (x1 / 9)), (3, .int (x3 + 1))] [] F3 G3 Q))))) : AWi D (d + 1) nPutIns_find 32 [(0, .ref 29), (1, .long x1), (3, .int x3)] [] F G Q := by
  intro X CX
  refine gw_iload_n CX.1 2 rfl dPutIns_find_32 rfl ?_
  refine gw_aload_n CX.1 0 rfl dPutIns_find_33 rfl ?_
  refine gg_PutIns_15 CX.1 rfl dPutIns_find_34 ?_
  refine cl_Company_people CX (Nat.le_of_ble_eq_true rfl) wm_PutIns_51 dPutIns_find_37 H (fun x1_ F1 G1 H => ?_)
  refine gw_icmp_ge (tgt := 61) CX.1 dPutIns_find_40 (by decide) (fun c => ?_) (fun c => ?_)
  · replace H := H.1 c
    refine gw_aload_n CX.1 0 rfl dPutIns_find_61 rfl ?_
    refine cl_PutIns_leastWorth CX (Nat.le_of_ble_eq_true rfl) wm_PutIns_63 dPutIns_find_62 H (fun x2_ F2 G2 H => ?_)
    refine gw_ldc2 CX.1 wc_PutIns_41 dPutIns_find_65 ?_
    refine gw_lcmp CX.1 dPutIns_find_68 ?_
    refine gw_if_eq (tgt := 76) CX.1 dPutIns_find_69 (by decide) (fun c => ?_) (fun c => ?_)
    · replace H := H.1 c
      refine gw_iconst (v := 0) CX.1 dPutIns_find_76 (by decide) ?_
      exact gw_iret CX rfl (by decide) ⟨_, _, _, rfl, rfl, H⟩ (Nat.zero_le _) (Nat.zero_le _) dPutIns_find_77
    · replace H := H.2 c
      refine gw_iconst (v := 1) CX.1 dPutIns_find_72 (by decide) ?_
      refine gw_goto (tgt := 77) CX.1 dPutIns_find_73 (by decide) ?_
      exact gw_iret CX rfl (by decide) ⟨_, _, _, rfl, rfl, H⟩ (Nat.zero_le _) (Nat.zero_le _) dPutIns_find_77
  · replace H := H.2 c
    refine gw_aload_n CX.1 0 rfl dPutIns_find_43 rfl ?_
    refine gw_iload_n CX.1 2 rfl dPutIns_find_44 rfl ?_
    refine gw_lload_n CX.1 1 rfl dPutIns_find_45 rfl ?_
    refine cl_PutIns_addPerson CX (Nat.le_of_ble_eq_true rfl) wm_PutIns_57 dPutIns_find_46 H (fun F3 G3 H => ?_)
    refine gw_lload_n CX.1 1 rfl dPutIns_find_49 rfl ?_
    refine gw_ldc2 CX.1 wc_PutIns_61 dPutIns_find_50 ?_
    refine gw_ldiv CX.1 dPutIns_find_53 (by decide) ?_
    refine gw_lstore_n CX.1 dPutIns_find_54 rfl (by decide) rfl ?_
    refine gw_iinc (v := (x3 + 1)) CX.1 2 rfl dPutIns_find_55 rfl (by decide) rfl ?_
    refine gw_goto (tgt := 32) CX.1 dPutIns_find_58 (by decide) ?_
    exact gw_sub [2, 1, 0] rfl (H X CX)
theorem ePutIns_find {D : va_G} {d : Nat} {Q : Int32 → (Nat → Nat → Int32) → (Nat → Int64) → Prop} {F : Nat → Nat → Int32} {G : Nat → Int64} (H : AMi D d nPutIns_readNeeds [.ref 29] F G (fun x1_ F1 G1 => ((¬ x1_ = 0 → AWi D (d + 1) nPutIns_find 32 [(0, .ref 29), (1, .long 387420489), (3, .int 0)] [] F1 (vp_updL (gFl G1 3486784401000000 576) ((0 : Int32).toNatClampNeg) 0) Q) ∧ (x1_ = 0 → Q 0 F1 G1)))) : AMi D (d + 1) nPutIns_find [.ref 29] F G Q := by
  refine AM_intro (by decide) (Nat.le_of_ble_eq_true rfl) ?_
  intro X CX
  refine gw_aload_n CX.1 0 rfl dPutIns_find_0 rfl ?_
  refine cl_PutIns_readNeeds CX (Nat.le_of_ble_eq_true rfl) wm_PutIns_37 dPutIns_find_1 H (fun x1_ F1 G1 H => ?_)
  refine gw_if_ne (tgt := 9) CX.1 dPutIns_find_4 (by decide) (fun c => ?_) (fun c => ?_)
  · replace H := H.1 c
    refine gw_aload_n CX.1 0 rfl dPutIns_find_9 rfl ?_
    refine gg_PutIns_29 CX.1 rfl dPutIns_find_10 ?_
    refine gw_ldc2 CX.1 wc_PutIns_41 dPutIns_find_13 ?_
    refine gcf_J (G' := (gFl G1 3486784401000000 576)) CX (Nat.le_of_ble_eq_true rfl) wm_PutIns_43 dPutIns_find_16 (by decide) mk_32 (ms_32 _) ?_
    refine gw_aload_n CX.1 0 rfl dPutIns_find_19 rfl ?_
    refine gg_PutIns_29 CX.1 rfl dPutIns_find_20 ?_
    refine gw_iconst (v := 0) CX.1 dPutIns_find_23 (by decide) ?_
    refine gw_lconst (v := 0) CX.1 dPutIns_find_24 (by decide) ?_
    refine gs_32 CX.1 (vp_in_iff.mpr (by decide)) dPutIns_find_25 ?_
    refine gw_ldc2 CX.1 wc_PutIns_49 dPutIns_find_26 ?_
    refine gw_lstore_n CX.1 dPutIns_find_29 rfl (by decide) rfl ?_
    refine gw_iconst (v := 0) CX.1 dPutIns_find_30 (by decide) ?_
    refine gw_istore_n CX.1 dPutIns_find_31 rfl (by decide) rfl ?_
    exact gw_sub [2, 1, 0] rfl (H X CX)
  · replace H := H.2 c
    refine gw_iconst (v := 0) CX.1 dPutIns_find_7 (by decide) ?_
    exact gw_iret CX rfl (by decide) ⟨_, _, _, rfl, rfl, H⟩ (Nat.zero_le _) (Nat.zero_le _) dPutIns_find_8
theorem bPutIns_readNeeds_9 {D : va_G} {d : Nat} {Q : Int32 → (Nat → Nat → Int32) → (Nat → Int64) → Prop} {F : Nat → Nat → Int32} {G : Nat → Int64} {x1 : Int32} {x2 : Int32} (H : AMi D d nShow_tracks [.ref 2] F G (fun x1_ F1 G1 => ((x1_ ≤ x2 → AMi D d nCompany_people [.ref 8] F1 G1 (fun x2_ F2 G2 => ((x2_ < x1 → Q 0 F2 G2) ∧ (¬ (x2_ < x1) → ((576 < (F2 107 0) → Q 0 F2 G2) ∧ (¬ (576 < (F2 107 0)) → Q 1 F2 G2)))))) ∧ (¬ (x1_ ≤ x2) → AMi D d nPutIns_countFresh [.ref 29, .int x2] F1 G1 (fun x3_ F3 G3 => vp_in x2 8 ∧ AMi D d nShow_countCues [.ref 2, .int x2] (up F3 29 (x2.toNatClampNeg) (if 0 < (2 - x3_) then (2 - x3_) else 0)) G3 (fun x4_ F4 G4 => vp_in x2 8 ∧ vp_in x2 8 ∧ vp_in x2 8 ∧ vp_in x2 8 ∧ AWi D (d + 1) nPutIns_readNeeds 9 [(0, .ref 29), (1, .int (x1 + ((upS (up (up F4 31 (x2.toNatClampNeg) ((x4_ / 4) + 1)) 30 (x2.toNatClampNeg) ((up F4 31 (x2.toNatClampNeg) ((x4_ / 4) + 1)) 107 0)) 107 (((up (up F4 31 (x2.toNatClampNeg) ((x4_ / 4) + 1)) 30 (x2.toNatClampNeg) ((up F4 31 (x2.toNatClampNeg) ((x4_ / 4) + 1)) 107 0)) 107 0) * (((up (up F4 31 (x2.toNatClampNeg) ((x4_ / 4) + 1)) 30 (x2.toNatClampNeg) ((up F4 31 (x2.toNatClampNeg) ((x4_ / 4) + 1)) 107 0)) 29 x2.toNatClampNeg) + 1))) 29 x2.toNatClampNeg))), (2, .int (x2 + 1))] [] (upS (up (up F4 31 (x2.toNatClampNeg) ((x4_ / 4) + 1)) 30 (x2.toNatClampNeg) ((up F4 31 (x2.toNatClampNeg) ((x4_ / 4) + 1)) 107 0)) 107 (((up (up F4 31 (x2.toNatClampNeg) ((x4_ / 4) + 1)) 30 (x2.toNatClampNeg) ((up F4 31 (x2.toNatClampNeg) ((x4_ / 4) + 1)) 107 0)) 107 0) * (((up (up F4 31 (x2.toNatClampNeg) ((x4_ / 4) + 1)) 30 (x2.toNatClampNeg) ((up F4 31 (x2.toNatClampNeg) ((x4_ / 4) + 1)) 107 0)) 29 x2.toNatClampNeg) + 1))) G4 Q)))))) : AWi D (d + 1) nPutIns_readNeeds 9 [(0, .ref 29), (1, .int x1), (2, .int x2)] [] F G Q := by
  intro X CX
  refine gw_iload_n CX.1 2 rfl dPutIns_readNeeds_9 rfl ?_
  refine gw_aload_n CX.1 0 rfl dPutIns_readNeeds_10 rfl ?_
  refine gg_PutIns_11 CX.1 rfl dPutIns_readNeeds_11 ?_
  refine cl_Show_tracks CX (Nat.le_of_ble_eq_true rfl) wm_PutIns_74 dPutIns_readNeeds_14 H (fun x1_ F1 G1 H => ?_)
  refine gw_icmp_ge (tgt := 97) CX.1 dPutIns_readNeeds_17 (by decide) (fun c => ?_) (fun c => ?_)
  · replace H := H.1 c
    refine gw_iload_n CX.1 1 rfl dPutIns_readNeeds_97 rfl ?_
    refine gw_aload_n CX.1 0 rfl dPutIns_readNeeds_98 rfl ?_
    refine gg_PutIns_15 CX.1 rfl dPutIns_readNeeds_99 ?_
    refine cl_Company_people CX (Nat.le_of_ble_eq_true rfl) wm_PutIns_51 dPutIns_readNeeds_102 H (fun x2_ F2 G2 H => ?_)
    refine gw_icmp_gt (tgt := 122) CX.1 dPutIns_readNeeds_105 (by decide) (fun c => ?_) (fun c => ?_)
    · replace H := H.1 c
      refine gw_iconst (v := 0) CX.1 dPutIns_readNeeds_122 (by decide) ?_
      exact gw_iret CX rfl (by decide) ⟨_, _, _, rfl, rfl, H⟩ (Nat.zero_le _) (Nat.zero_le _) dPutIns_readNeeds_123
    · replace H := H.2 c
      refine gw_aload_n CX.1 0 rfl dPutIns_readNeeds_108 rfl ?_
      refine gg_PutIns_33 CX.1 rfl dPutIns_readNeeds_109 ?_
      refine gw_sipush (v := 576) CX.1 dPutIns_readNeeds_112 (by decide) ?_
      refine gw_icmp_gt (tgt := 122) CX.1 dPutIns_readNeeds_115 (by decide) (fun c => ?_) (fun c => ?_)
      · replace H := H.1 c
        refine gw_iconst (v := 0) CX.1 dPutIns_readNeeds_122 (by decide) ?_
        exact gw_iret CX rfl (by decide) ⟨_, _, _, rfl, rfl, H⟩ (Nat.zero_le _) (Nat.zero_le _) dPutIns_readNeeds_123
      · replace H := H.2 c
        refine gw_iconst (v := 1) CX.1 dPutIns_readNeeds_118 (by decide) ?_
        refine gw_goto (tgt := 123) CX.1 dPutIns_readNeeds_119 (by decide) ?_
        exact gw_iret CX rfl (by decide) ⟨_, _, _, rfl, rfl, H⟩ (Nat.zero_le _) (Nat.zero_le _) dPutIns_readNeeds_123
  · replace H := H.2 c
    refine gw_aload_n CX.1 0 rfl dPutIns_readNeeds_20 rfl ?_
    refine gg_PutIns_19 CX.1 rfl dPutIns_readNeeds_21 ?_
    refine gw_iload_n CX.1 2 rfl dPutIns_readNeeds_24 rfl ?_
    refine gw_iconst (v := 0) CX.1 dPutIns_readNeeds_25 (by decide) ?_
    refine gw_iconst (v := 2) CX.1 dPutIns_readNeeds_26 (by decide) ?_
    refine gw_aload_n CX.1 0 rfl dPutIns_readNeeds_27 rfl ?_
    refine gw_iload_n CX.1 2 rfl dPutIns_readNeeds_28 rfl ?_
    refine cl_PutIns_countFresh CX (Nat.le_of_ble_eq_true rfl) wm_PutIns_79 dPutIns_readNeeds_29 H (fun x3_ F3 G3 H => ?_)
    refine gw_isub CX.1 dPutIns_readNeeds_32 ?_
    refine gw_mmax CX (Nat.le_of_ble_eq_true rfl) wm_PutIns_83 dPutIns_readNeeds_33 ?_
    obtain ⟨hin, H⟩ := H
    refine gs_29 CX.1 hin dPutIns_readNeeds_36 ?_
    refine gw_aload_n CX.1 0 rfl dPutIns_readNeeds_37 rfl ?_
    refine gg_PutIns_26 CX.1 rfl dPutIns_readNeeds_38 ?_
    refine gw_iload_n CX.1 2 rfl dPutIns_readNeeds_41 rfl ?_
    refine gw_aload_n CX.1 0 rfl dPutIns_readNeeds_42 rfl ?_
    refine gg_PutIns_11 CX.1 rfl dPutIns_readNeeds_43 ?_
    refine gw_iload_n CX.1 2 rfl dPutIns_readNeeds_46 rfl ?_
    refine cl_Show_countCues CX (Nat.le_of_ble_eq_true rfl) wm_PutIns_89 dPutIns_readNeeds_47 H (fun x4_ F4 G4 H => ?_)
    refine gw_iconst (v := 4) CX.1 dPutIns_readNeeds_50 (by decide) ?_
    refine gw_idiv CX.1 dPutIns_readNeeds_51 (by decide) ?_
    refine gw_iconst (v := 1) CX.1 dPutIns_readNeeds_52 (by decide) ?_
    refine gw_iadd CX.1 dPutIns_readNeeds_53 ?_
    obtain ⟨hin, H⟩ := H
    refine gs_31 CX.1 hin dPutIns_readNeeds_54 ?_
    refine gw_aload_n CX.1 0 rfl dPutIns_readNeeds_55 rfl ?_
    refine gg_PutIns_23 CX.1 rfl dPutIns_readNeeds_56 ?_
    refine gw_iload_n CX.1 2 rfl dPutIns_readNeeds_59 rfl ?_
    refine gw_aload_n CX.1 0 rfl dPutIns_readNeeds_60 rfl ?_
    refine gg_PutIns_33 CX.1 rfl dPutIns_readNeeds_61 ?_
    obtain ⟨hin, H⟩ := H
    refine gs_30 CX.1 hin dPutIns_readNeeds_64 ?_
    refine gw_aload_n CX.1 0 rfl dPutIns_readNeeds_65 rfl ?_
    refine gw_dup CX.1 dPutIns_readNeeds_66 rfl ?_
    refine gg_PutIns_33 CX.1 rfl dPutIns_readNeeds_67 ?_
    refine gw_aload_n CX.1 0 rfl dPutIns_readNeeds_70 rfl ?_
    refine gg_PutIns_19 CX.1 rfl dPutIns_readNeeds_71 ?_
    refine gw_iload_n CX.1 2 rfl dPutIns_readNeeds_74 rfl ?_
    obtain ⟨hin, H⟩ := H
    refine ga_29 CX.1 hin dPutIns_readNeeds_75 ?_
    refine gw_iconst (v := 1) CX.1 dPutIns_readNeeds_76 (by decide) ?_
    refine gw_iadd CX.1 dPutIns_readNeeds_77 ?_
    refine gw_imul CX.1 dPutIns_readNeeds_78 ?_
    refine gp_PutIns_33 CX.1 rfl dPutIns_readNeeds_79 ?_
    refine gw_iload_n CX.1 1 rfl dPutIns_readNeeds_82 rfl ?_
    refine gw_aload_n CX.1 0 rfl dPutIns_readNeeds_83 rfl ?_
    refine gg_PutIns_19 CX.1 rfl dPutIns_readNeeds_84 ?_
    refine gw_iload_n CX.1 2 rfl dPutIns_readNeeds_87 rfl ?_
    obtain ⟨hin, H⟩ := H
    refine ga_29 CX.1 hin dPutIns_readNeeds_88 ?_
    refine gw_iadd CX.1 dPutIns_readNeeds_89 ?_
    refine gw_istore_n CX.1 dPutIns_readNeeds_90 rfl (by decide) rfl ?_
    refine gw_iinc (v := (x2 + 1)) CX.1 2 rfl dPutIns_readNeeds_91 rfl (by decide) rfl ?_
    refine gw_goto (tgt := 9) CX.1 dPutIns_readNeeds_94 (by decide) ?_
    exact gw_sub [2, 1, 0] rfl (H X CX)
theorem ePutIns_readNeeds {D : va_G} {d : Nat} {Q : Int32 → (Nat → Nat → Int32) → (Nat → Int64) → Prop} {F : Nat → Nat → Int32} {G : Nat → Int64} (H : AWi D (d + 1) nPutIns_readNeeds 9 [(0, .ref 29), (1, .int 0), (2, .int 0)] [] (upS F 107 1) G Q) : AMi D (d + 1) nPutIns_readNeeds [.ref 29] F G Q := by
  refine AM_intro (by decide) (Nat.le_of_ble_eq_true rfl) ?_
  intro X CX
  refine gw_iconst (v := 0) CX.1 dPutIns_readNeeds_0 (by decide) ?_
  refine gw_istore_n CX.1 dPutIns_readNeeds_1 rfl (by decide) rfl ?_
  refine gw_aload_n CX.1 1 rfl dPutIns_readNeeds_2 rfl ?_
  refine gw_iconst (v := 1) CX.1 dPutIns_readNeeds_3 (by decide) ?_
  refine gp_PutIns_33 CX.1 rfl dPutIns_readNeeds_4 ?_
  refine gw_iconst (v := 0) CX.1 dPutIns_readNeeds_7 (by decide) ?_
  refine gw_istore_n CX.1 dPutIns_readNeeds_8 rfl (by decide) rfl ?_
  exact gw_sub [2, 1, 0] rfl (H X CX)
theorem bPutIns_countFresh_4 {D : va_G} {d : Nat} {Q : Int32 → (Nat → Nat → Int32) → (Nat → Int64) → Prop} {F : Nat → Nat → Int32} {G : Nat → Int64} {x1 : Int32} {x2 : Int32} {x3 : Int32} (H : AMi D d nCompany_people [.ref 8] F G (fun x1_ F1 G1 => ((x1_ ≤ x3 → Q x2 F1 G1) ∧ (¬ (x1_ ≤ x3) → AMi D d nCompany_isFresh [.ref 8, .int x3, .int x1] F1 G1 (fun x2_ F2 G2 => ((x2_ = 0 → AWi D (d + 1) nPutIns_countFresh 4 [(0, .ref 29), (1, .int x1), (2, .int (x2 + 0)), (3, .int (x3 + 1))] [] F2 G2 Q) ∧ (¬ (x2_ = 0) → AWi D (d + 1) nPutIns_countFresh 4 [(0, .ref 29), (1, .int x1), (2, .int (x2 + 1)), (3, .int (x3 + 1))] [] F2 G2 Q))))))) : AWi D (d + 1) nPutIns_countFresh 4 [(0, .ref 29), (1, .int x1), (2, .int x2), (3, .int x3)] [] F G Q := by
  intro X CX
  refine gw_iload_n CX.1 3 rfl dPutIns_countFresh_4 rfl ?_
  refine gw_aload_n CX.1 0 rfl dPutIns_countFresh_5 rfl ?_
  refine gg_PutIns_15 CX.1 rfl dPutIns_countFresh_6 ?_
  refine cl_Company_people CX (Nat.le_of_ble_eq_true rfl) wm_PutIns_51 dPutIns_countFresh_9 H (fun x1_ F1 G1 H => ?_)
  refine gw_icmp_ge (tgt := 41) CX.1 dPutIns_countFresh_12 (by decide) (fun c => ?_) (fun c => ?_)
  · replace H := H.1 c
    refine gw_iload_n CX.1 2 rfl dPutIns_countFresh_41 rfl ?_
    exact gw_iret CX rfl rfl ⟨_, _, _, rfl, rfl, H⟩ (Nat.zero_le _) (Nat.zero_le _) dPutIns_countFresh_42
  · replace H := H.2 c
    refine gw_iload_n CX.1 2 rfl dPutIns_countFresh_15 rfl ?_
    refine gw_aload_n CX.1 0 rfl dPutIns_countFresh_16 rfl ?_
    refine gg_PutIns_15 CX.1 rfl dPutIns_countFresh_17 ?_
    refine gw_iload_n CX.1 3 rfl dPutIns_countFresh_20 rfl ?_
    refine gw_iload_n CX.1 1 rfl dPutIns_countFresh_21 rfl ?_
    refine cl_Company_isFresh CX (Nat.le_of_ble_eq_true rfl) wm_PutIns_92 dPutIns_countFresh_22 H (fun x2_ F2 G2 H => ?_)
    refine gw_if_eq (tgt := 32) CX.1 dPutIns_countFresh_25 (by decide) (fun c => ?_) (fun c => ?_)
    · replace H := H.1 c
      refine gw_iconst (v := 0) CX.1 dPutIns_countFresh_32 (by decide) ?_
      refine gw_iadd CX.1 dPutIns_countFresh_33 ?_
      refine gw_istore_n CX.1 dPutIns_countFresh_34 rfl (by decide) rfl ?_
      refine gw_iinc (v := (x3 + 1)) CX.1 3 rfl dPutIns_countFresh_35 rfl (by decide) rfl ?_
      refine gw_goto (tgt := 4) CX.1 dPutIns_countFresh_38 (by decide) ?_
      exact gw_sub [2, 3, 1, 0] rfl (H X CX)
    · replace H := H.2 c
      refine gw_iconst (v := 1) CX.1 dPutIns_countFresh_28 (by decide) ?_
      refine gw_goto (tgt := 33) CX.1 dPutIns_countFresh_29 (by decide) ?_
      refine gw_iadd CX.1 dPutIns_countFresh_33 ?_
      refine gw_istore_n CX.1 dPutIns_countFresh_34 rfl (by decide) rfl ?_
      refine gw_iinc (v := (x3 + 1)) CX.1 3 rfl dPutIns_countFresh_35 rfl (by decide) rfl ?_
      refine gw_goto (tgt := 4) CX.1 dPutIns_countFresh_38 (by decide) ?_
      exact gw_sub [2, 3, 1, 0] rfl (H X CX)
theorem ePutIns_countFresh {D : va_G} {d : Nat} {Q : Int32 → (Nat → Nat → Int32) → (Nat → Int64) → Prop} {F : Nat → Nat → Int32} {G : Nat → Int64} {a0 : Int32} (H : AWi D (d + 1) nPutIns_countFresh 4 [(0, .ref 29), (1, .int a0), (2, .int 0), (3, .int 0)] [] F G Q) : AMi D (d + 1) nPutIns_countFresh [.ref 29, .int a0] F G Q := by
  refine AM_intro (by decide) (Nat.le_of_ble_eq_true rfl) ?_
  intro X CX
  refine gw_iconst (v := 0) CX.1 dPutIns_countFresh_0 (by decide) ?_
  refine gw_istore_n CX.1 dPutIns_countFresh_1 rfl (by decide) rfl ?_
  refine gw_iconst (v := 0) CX.1 dPutIns_countFresh_2 (by decide) ?_
  refine gw_istore_n CX.1 dPutIns_countFresh_3 rfl (by decide) rfl ?_
  exact gw_sub [2, 3, 1, 0] rfl (H X CX)
theorem bPutIns_addPerson_15 {D : va_G} {d : Nat} {Q : (Nat → Nat → Int32) → (Nat → Int64) → Prop} {F : Nat → Nat → Int32} {G : Nat → Int64} {x1 : Int32} {x2 : Int64} {x4 : Int32} {x5 : Int32} (H : ((x5 < 0 → Q F G) ∧ (¬ (x5 < 0) → AMl D d nPutIns_leastWith [.ref 29, .int x4, .long x2, .int x5] F G (fun x1_ F1 G1 => vp_in x5 576 ∧ AWv D (d + 1) nPutIns_addPerson 15 [(0, .ref 29), (1, .int x1), (2, .long x2), (4, .int x4), (5, .int (x5 + (-1)))] [] F1 (vp_updL G1 (x5.toNatClampNeg) x1_) Q)))) : AWv D (d + 1) nPutIns_addPerson 15 [(0, .ref 29), (1, .int x1), (2, .long x2), (4, .int x4), (5, .int x5)] [] F G Q := by
  intro X CX
  refine gw_iload CX.1 4 rfl dPutIns_addPerson_15 ?_
  refine gw_if_lt (tgt := 42) CX.1 dPutIns_addPerson_17 (by decide) (fun c => ?_) (fun c => ?_)
  · replace H := H.1 c
    exact gw_vret CX rfl ⟨_, _, rfl, rfl, H⟩ (Nat.zero_le _) (Nat.zero_le _) dPutIns_addPerson_42
  · replace H := H.2 c
    refine gw_aload_n CX.1 0 rfl dPutIns_addPerson_20 rfl ?_
    refine gg_PutIns_29 CX.1 rfl dPutIns_addPerson_21 ?_
    refine gw_iload CX.1 4 rfl dPutIns_addPerson_24 ?_
    refine gw_aload_n CX.1 0 rfl dPutIns_addPerson_26 rfl ?_
    refine gw_iload CX.1 3 rfl dPutIns_addPerson_27 ?_
    refine gw_lload_n CX.1 2 rfl dPutIns_addPerson_29 rfl ?_
    refine gw_iload CX.1 4 rfl dPutIns_addPerson_30 ?_
    refine cl_PutIns_leastWith CX (Nat.le_of_ble_eq_true rfl) wm_PutIns_99 dPutIns_addPerson_32 H (fun x1_ F1 G1 H => ?_)
    obtain ⟨hin, H⟩ := H
    refine gs_32 CX.1 hin dPutIns_addPerson_35 ?_
    refine gw_iinc (v := (x5 + (-1))) CX.1 4 rfl dPutIns_addPerson_36 rfl (by decide) rfl ?_
    refine gw_goto (tgt := 15) CX.1 dPutIns_addPerson_39 (by decide) ?_
    exact gw_sub [1, 2, 3, 4, 0] rfl (H X CX)
theorem ePutIns_addPerson {D : va_G} {d : Nat} {Q : (Nat → Nat → Int32) → (Nat → Int64) → Prop} {F : Nat → Nat → Int32} {G : Nat → Int64} {a0 : Int32} {a1 : Int64} (H : AMi D d nPutIns_staleTracks [.ref 29, .int a0] F G (fun x1_ F1 G1 => AWv D (d + 1) nPutIns_addPerson 15 [(0, .ref 29), (1, .int a0), (2, .long a1), (4, .int x1_), (5, .int ((F1 107 0) - 1))] [] F1 G1 Q)) : AMv D (d + 1) nPutIns_addPerson [.ref 29, .int a0, .long a1] F G Q := by
  refine AM_intro (by decide) (Nat.le_of_ble_eq_true rfl) ?_
  intro X CX
  refine gw_aload_n CX.1 0 rfl dPutIns_addPerson_0 rfl ?_
  refine gw_iload_n CX.1 1 rfl dPutIns_addPerson_1 rfl ?_
  refine cl_PutIns_staleTracks CX (Nat.le_of_ble_eq_true rfl) wm_PutIns_96 dPutIns_addPerson_2 H (fun x1_ F1 G1 H => ?_)
  refine gw_istore CX.1 dPutIns_addPerson_5 (by decide) rfl ?_
  refine gw_aload_n CX.1 1 rfl dPutIns_addPerson_7 rfl ?_
  refine gg_PutIns_33 CX.1 rfl dPutIns_addPerson_8 ?_
  refine gw_iconst (v := 1) CX.1 dPutIns_addPerson_11 (by decide) ?_
  refine gw_isub CX.1 dPutIns_addPerson_12 ?_
  refine gw_istore CX.1 dPutIns_addPerson_13 (by decide) rfl ?_
  exact gw_sub [2, 3, 4, 1, 0] rfl (H X CX)
theorem bPutIns_staleTracks_4 {D : va_G} {d : Nat} {Q : Int32 → (Nat → Nat → Int32) → (Nat → Int64) → Prop} {F : Nat → Nat → Int32} {G : Nat → Int64} {x1 : Int32} {x2 : Int32} {x3 : Int32} (H : AMi D d nShow_tracks [.ref 2] F G (fun x1_ F1 G1 => ((x1_ ≤ x3 → Q x2 F1 G1) ∧ (¬ (x1_ ≤ x3) → AMi D d nCompany_knows [.ref 8, .int x1, .int x3] F1 G1 (fun x2_ F2 G2 => ((x2_ = 0 → AWi D (d + 1) nPutIns_staleTracks 43 [(0, .ref 29), (1, .int x1), (2, .int x2), (3, .int x3)] [] F2 G2 Q) ∧ (¬ (x2_ = 0) → AMi D d nCompany_isFresh [.ref 8, .int x1, .int x3] F2 G2 (fun x3_ F3 G3 => ((¬ x3_ = 0 → AWi D (d + 1) nPutIns_staleTracks 43 [(0, .ref 29), (1, .int x1), (2, .int x2), (3, .int x3)] [] F3 G3 Q) ∧ (x3_ = 0 → AWi D (d + 1) nPutIns_staleTracks 44 [(0, .ref 29), (1, .int x1), (2, .int x2), (3, .int x3)] [.int 1] F3 G3 Q)))))))))) : AWi D (d + 1) nPutIns_staleTracks 4 [(0, .ref 29), (1, .int x1), (2, .int x2), (3, .int x3)] [] F G Q := by
  intro X CX
  refine gw_iload_n CX.1 3 rfl dPutIns_staleTracks_4 rfl ?_
  refine gw_aload_n CX.1 0 rfl dPutIns_staleTracks_5 rfl ?_
  refine gg_PutIns_11 CX.1 rfl dPutIns_staleTracks_6 ?_
  refine cl_Show_tracks CX (Nat.le_of_ble_eq_true rfl) wm_PutIns_74 dPutIns_staleTracks_9 H (fun x1_ F1 G1 H => ?_)
  refine gw_icmp_ge (tgt := 67) CX.1 dPutIns_staleTracks_12 (by decide) (fun c => ?_) (fun c => ?_)
  · replace H := H.1 c
    refine gw_iload_n CX.1 2 rfl dPutIns_staleTracks_67 rfl ?_
    exact gw_iret CX rfl rfl ⟨_, _, _, rfl, rfl, H⟩ (Nat.zero_le _) (Nat.zero_le _) dPutIns_staleTracks_68
  · replace H := H.2 c
    refine gw_aload_n CX.1 0 rfl dPutIns_staleTracks_15 rfl ?_
    refine gg_PutIns_15 CX.1 rfl dPutIns_staleTracks_16 ?_
    refine gw_iload_n CX.1 1 rfl dPutIns_staleTracks_19 rfl ?_
    refine gw_iload_n CX.1 3 rfl dPutIns_staleTracks_20 rfl ?_
    refine cl_Company_knows CX (Nat.le_of_ble_eq_true rfl) wm_PutIns_103 dPutIns_staleTracks_21 H (fun x2_ F2 G2 H => ?_)
    refine gw_if_eq (tgt := 43) CX.1 dPutIns_staleTracks_24 (by decide) (fun c => ?_) (fun c => ?_)
    · replace H := H.1 c
      exact H X CX
    · replace H := H.2 c
      refine gw_aload_n CX.1 0 rfl dPutIns_staleTracks_27 rfl ?_
      refine gg_PutIns_15 CX.1 rfl dPutIns_staleTracks_28 ?_
      refine gw_iload_n CX.1 1 rfl dPutIns_staleTracks_31 rfl ?_
      refine gw_iload_n CX.1 3 rfl dPutIns_staleTracks_32 rfl ?_
      refine cl_Company_isFresh CX (Nat.le_of_ble_eq_true rfl) wm_PutIns_92 dPutIns_staleTracks_33 H (fun x3_ F3 G3 H => ?_)
      refine gw_if_ne (tgt := 43) CX.1 dPutIns_staleTracks_36 (by decide) (fun c => ?_) (fun c => ?_)
      · replace H := H.1 c
        exact H X CX
      · replace H := H.2 c
        refine gw_iconst (v := 1) CX.1 dPutIns_staleTracks_39 (by decide) ?_
        refine gw_goto (tgt := 44) CX.1 dPutIns_staleTracks_40 (by decide) ?_
        exact H X CX
theorem bPutIns_staleTracks_43 {D : va_G} {d : Nat} {Q : Int32 → (Nat → Nat → Int32) → (Nat → Int64) → Prop} {F : Nat → Nat → Int32} {G : Nat → Int64} {x1 : Int32} {x2 : Int32} {x3 : Int32} (H : AWi D (d + 1) nPutIns_staleTracks 44 [(0, .ref 29), (1, .int x1), (2, .int x2), (3, .int x3)] [.int 0] F G Q) : AWi D (d + 1) nPutIns_staleTracks 43 [(0, .ref 29), (1, .int x1), (2, .int x2), (3, .int x3)] [] F G Q := by
  intro X CX
  refine gw_iconst (v := 0) CX.1 dPutIns_staleTracks_43 (by decide) ?_
  exact H X CX
theorem bPutIns_staleTracks_44 {D : va_G} {d : Nat} {Q : Int32 → (Nat → Nat → Int32) → (Nat → Int64) → Prop} {F : Nat → Nat → Int32} {G : Nat → Int64} {x1 : Int32} {x2 : Int32} {x3 : Int32} {s0 : Int32} (H : ((s0 = 0 → AWi D (d + 1) nPutIns_staleTracks 4 [(0, .ref 29), (1, .int x1), (2, .int (x2 ||| 0)), (3, .int (x3 + 1))] [] F G Q) ∧ (¬ (s0 = 0) → AWi D (d + 1) nPutIns_staleTracks 4 [(0, .ref 29), (1, .int x1), (2, .int (x2 ||| (1 <<< (x3 &&& 31)))), (3, .int (x3 + 1))] [] F G Q))) : AWi D (d + 1) nPutIns_staleTracks 44 [(0, .ref 29), (1, .int x1), (2, .int x2), (3, .int x3)] [.int s0] F G Q := by
  intro X CX
  refine gw_istore CX.1 dPutIns_staleTracks_44 (by decide) rfl ?_
  refine gw_iload_n CX.1 3 rfl dPutIns_staleTracks_46 rfl ?_
  refine gw_iload CX.1 0 rfl dPutIns_staleTracks_47 ?_
  refine gw_if_eq (tgt := 58) CX.1 dPutIns_staleTracks_49 (by decide) (fun c => ?_) (fun c => ?_)
  · replace H := H.1 c
    refine gw_iconst (v := 0) CX.1 dPutIns_staleTracks_58 (by decide) ?_
    refine gw_ior CX.1 dPutIns_staleTracks_59 ?_
    refine gw_istore_n CX.1 dPutIns_staleTracks_60 rfl (by decide) rfl ?_
    refine gw_iinc (v := (x3 + 1)) CX.1 4 rfl dPutIns_staleTracks_61 rfl (by decide) rfl ?_
    refine gw_goto (tgt := 4) CX.1 dPutIns_staleTracks_64 (by decide) ?_
    exact gw_sub [3, 4, 1, 0] rfl (H X CX)
  · replace H := H.2 c
    refine gw_iconst (v := 1) CX.1 dPutIns_staleTracks_52 (by decide) ?_
    refine gw_iload_n CX.1 4 rfl dPutIns_staleTracks_53 rfl ?_
    refine gw_ishl CX.1 dPutIns_staleTracks_54 ?_
    refine gw_goto (tgt := 59) CX.1 dPutIns_staleTracks_55 (by decide) ?_
    refine gw_ior CX.1 dPutIns_staleTracks_59 ?_
    refine gw_istore_n CX.1 dPutIns_staleTracks_60 rfl (by decide) rfl ?_
    refine gw_iinc (v := (x3 + 1)) CX.1 4 rfl dPutIns_staleTracks_61 rfl (by decide) rfl ?_
    refine gw_goto (tgt := 4) CX.1 dPutIns_staleTracks_64 (by decide) ?_
    exact gw_sub [3, 4, 1, 0] rfl (H X CX)
theorem ePutIns_staleTracks {D : va_G} {d : Nat} {Q : Int32 → (Nat → Nat → Int32) → (Nat → Int64) → Prop} {F : Nat → Nat → Int32} {G : Nat → Int64} {a0 : Int32} (H : AWi D (d + 1) nPutIns_staleTracks 4 [(0, .ref 29), (1, .int a0), (2, .int 0), (3, .int 0)] [] F G Q) : AMi D (d + 1) nPutIns_staleTracks [.ref 29, .int a0] F G Q := by
  refine AM_intro (by decide) (Nat.le_of_ble_eq_true rfl) ?_
  intro X CX
  refine gw_iconst (v := 0) CX.1 dPutIns_staleTracks_0 (by decide) ?_
  refine gw_istore_n CX.1 dPutIns_staleTracks_1 rfl (by decide) rfl ?_
  refine gw_iconst (v := 0) CX.1 dPutIns_staleTracks_2 (by decide) ?_
  refine gw_istore_n CX.1 dPutIns_staleTracks_3 rfl (by decide) rfl ?_
  exact gw_sub [2, 3, 1, 0] rfl (H X CX)
theorem bPutIns_leastWith_20 {D : va_G} {d : Nat} {Q : Int64 → (Nat → Nat → Int32) → (Nat → Int64) → Prop} {F : Nat → Nat → Int32} {G : Nat → Int64} {x1 : Int32} {x2 : Int64} {x4 : Int32} {x5 : Int64} {x7 : Int32} (H : AMi D d nShow_tracks [.ref 2] F G (fun x1_ F1 G1 => ((x1_ ≤ x7 → Q x5 F1 G1) ∧ (¬ (x1_ ≤ x7) → ((¬ ((x1 >>> (x7 &&& 31)) &&& 1) = 1 → AWl D (d + 1) nPutIns_leastWith 20 [(0, .ref 29), (1, .int x1), (2, .long x2), (4, .int x4), (5, .long x5), (7, .int (x7 + 1))] [] F1 G1 Q) ∧ (((x1 >>> (x7 &&& 31)) &&& 1) = 1 → AMi D d nPutIns_hasPutIn [.ref 29, .int x4, .int x7] F1 G1 (fun x2_ F2 G2 => ((x2_ = 0 → AWl D (d + 1) nPutIns_leastWith 20 [(0, .ref 29), (1, .int x1), (2, .long x2), (4, .int x4), (5, .long x5), (7, .int (x7 + 1))] [] F2 G2 Q) ∧ (¬ (x2_ = 0) → vp_in x7 8 ∧ vp_in (x4 - (F2 30 x7.toNatClampNeg)) 576 ∧ vp_in x7 8 ∧ AMl D d nPutIns_plus [.long (G2 (x4 - (F2 30 x7.toNatClampNeg)).toNatClampNeg), .long (((F2 31 x7.toNatClampNeg).toInt64 * 3486784401) + (x7.toInt64 * x2))] F2 G2 (fun x3_ F3 G3 => AWl D (d + 1) nPutIns_leastWith 20 [(0, .ref 29), (1, .int x1), (2, .long x2), (4, .int x4), (5, .long (if x3_ < x5 then x3_ else x5)), (7, .int (x7 + 1))] [] F3 G3 Q)))))))))) : AWl D (d + 1) nPutIns_leastWith 20 [(0, .ref 29), (1, .int x1), (2, .long x2), (4, .int x4), (5, .long x5), (7, .int x7)] [] F G Q := by
  intro X CX
  refine gw_iload CX.1 5 rfl dPutIns_leastWith_20 ?_
  refine gw_aload_n CX.1 0 rfl dPutIns_leastWith_22 rfl ?_
  refine gg_PutIns_11 CX.1 rfl dPutIns_leastWith_23 ?_
  refine cl_Show_tracks CX (Nat.le_of_ble_eq_true rfl) wm_PutIns_74 dPutIns_leastWith_26 H (fun x1_ F1 G1 H => ?_)
  refine gw_icmp_ge (tgt := 106) CX.1 dPutIns_leastWith_29 (by decide) (fun c => ?_) (fun c => ?_)
  · replace H := H.1 c
    refine gw_lload CX.1 4 rfl dPutIns_leastWith_106 ?_
    exact gw_lret CX rfl ⟨_, _, _, rfl, rfl, H⟩ (Nat.zero_le _) (Nat.zero_le _) dPutIns_leastWith_108
  · replace H := H.2 c
    refine gw_iload_n CX.1 1 rfl dPutIns_leastWith_32 rfl ?_
    refine gw_iload CX.1 5 rfl dPutIns_leastWith_33 ?_
    refine gw_ishr CX.1 dPutIns_leastWith_35 ?_
    refine gw_iconst (v := 1) CX.1 dPutIns_leastWith_36 (by decide) ?_
    refine gw_iand CX.1 dPutIns_leastWith_37 ?_
    refine gw_iconst (v := 1) CX.1 dPutIns_leastWith_38 (by decide) ?_
    refine gw_icmp_ne (tgt := 100) CX.1 dPutIns_leastWith_39 (by decide) (fun c => ?_) (fun c => ?_)
    · replace H := H.1 c
      refine gw_iinc (v := (x7 + 1)) CX.1 5 rfl dPutIns_leastWith_100 rfl (by decide) rfl ?_
      refine gw_goto (tgt := 20) CX.1 dPutIns_leastWith_103 (by decide) ?_
      exact gw_sub [1, 2, 3, 4, 5, 0] rfl (H X CX)
    · replace H := H.2 c
      refine gw_aload_n CX.1 0 rfl dPutIns_leastWith_42 rfl ?_
      refine gw_iload CX.1 3 rfl dPutIns_leastWith_43 ?_
      refine gw_iload CX.1 5 rfl dPutIns_leastWith_45 ?_
      refine cl_PutIns_hasPutIn CX (Nat.le_of_ble_eq_true rfl) wm_PutIns_112 dPutIns_leastWith_47 H (fun x2_ F2 G2 H => ?_)
      refine gw_if_eq (tgt := 100) CX.1 dPutIns_leastWith_50 (by decide) (fun c => ?_) (fun c => ?_)
      · replace H := H.1 c
        refine gw_iinc (v := (x7 + 1)) CX.1 5 rfl dPutIns_leastWith_100 rfl (by decide) rfl ?_
        refine gw_goto (tgt := 20) CX.1 dPutIns_leastWith_103 (by decide) ?_
        exact gw_sub [1, 2, 3, 4, 5, 0] rfl (H X CX)
      · replace H := H.2 c
        refine gw_aload_n CX.1 0 rfl dPutIns_leastWith_53 rfl ?_
        refine gg_PutIns_29 CX.1 rfl dPutIns_leastWith_54 ?_
        refine gw_iload CX.1 3 rfl dPutIns_leastWith_57 ?_
        refine gw_aload_n CX.1 0 rfl dPutIns_leastWith_59 rfl ?_
        refine gg_PutIns_23 CX.1 rfl dPutIns_leastWith_60 ?_
        refine gw_iload CX.1 5 rfl dPutIns_leastWith_63 ?_
        obtain ⟨hin, H⟩ := H
        refine ga_30 CX.1 hin dPutIns_leastWith_65 ?_
        refine gw_isub CX.1 dPutIns_leastWith_66 ?_
        obtain ⟨hin, H⟩ := H
        refine ga_32 CX.1 hin dPutIns_leastWith_67 ?_
        refine gw_lstore CX.1 dPutIns_leastWith_68 (by decide) rfl ?_
        refine gw_lload CX.1 5 rfl dPutIns_leastWith_70 ?_
        refine gw_lload CX.1 0 rfl dPutIns_leastWith_72 ?_
        refine gw_aload_n CX.1 1 rfl dPutIns_leastWith_74 rfl ?_
        refine gg_PutIns_26 CX.1 rfl dPutIns_leastWith_75 ?_
        refine gw_iload CX.1 6 rfl dPutIns_leastWith_78 ?_
        obtain ⟨hin, H⟩ := H
        refine ga_31 CX.1 hin dPutIns_leastWith_80 ?_
        refine gw_i2l CX.1 dPutIns_leastWith_81 ?_
        refine gw_ldc2 CX.1 wc_PutIns_67 dPutIns_leastWith_82 ?_
        refine gw_lmul CX.1 dPutIns_leastWith_85 ?_
        refine gw_iload CX.1 6 rfl dPutIns_leastWith_86 ?_
        refine gw_i2l CX.1 dPutIns_leastWith_88 ?_
        refine gw_lload_n CX.1 3 rfl dPutIns_leastWith_89 rfl ?_
        refine gw_lmul CX.1 dPutIns_leastWith_90 ?_
        refine gw_ladd CX.1 dPutIns_leastWith_91 ?_
        refine cl_PutIns_plus CX (Nat.le_of_ble_eq_true rfl) wm_PutIns_108 dPutIns_leastWith_92 H (fun x3_ F3 G3 H => ?_)
        refine gw_mmin CX (Nat.le_of_ble_eq_true rfl) wm_PutIns_115 dPutIns_leastWith_95 ?_
        refine gw_lstore CX.1 dPutIns_leastWith_98 (by decide) rfl ?_
        refine gw_iinc (v := (x7 + 1)) CX.1 6 rfl dPutIns_leastWith_100 rfl (by decide) rfl ?_
        refine gw_goto (tgt := 20) CX.1 dPutIns_leastWith_103 (by decide) ?_
        exact gw_sub [3, 4, 5, 6, 1, 0] rfl (H X CX)
theorem ePutIns_leastWith {D : va_G} {d : Nat} {Q : Int64 → (Nat → Nat → Int32) → (Nat → Int64) → Prop} {F : Nat → Nat → Int32} {G : Nat → Int64} {a0 : Int32} {a1 : Int64} {a2 : Int32} (H : vp_in a2 576 ∧ AMl D d nPutIns_plus [.long (G a2.toNatClampNeg), .long (8 * a1)] F G (fun x1_ F1 G1 => AWl D (d + 1) nPutIns_leastWith 20 [(0, .ref 29), (1, .int a0), (2, .long a1), (4, .int a2), (5, .long x1_), (7, .int 0)] [] F1 G1 Q)) : AMl D (d + 1) nPutIns_leastWith [.ref 29, .int a0, .long a1, .int a2] F G Q := by
  refine AM_intro (by decide) (Nat.le_of_ble_eq_true rfl) ?_
  intro X CX
  refine gw_aload_n CX.1 0 rfl dPutIns_leastWith_0 rfl ?_
  refine gg_PutIns_29 CX.1 rfl dPutIns_leastWith_1 ?_
  refine gw_iload CX.1 3 rfl dPutIns_leastWith_4 ?_
  obtain ⟨hin, H⟩ := H
  refine ga_32 CX.1 hin dPutIns_leastWith_6 ?_
  refine gw_ldc2 CX.1 wc_PutIns_106 dPutIns_leastWith_7 ?_
  refine gw_lload_n CX.1 2 rfl dPutIns_leastWith_10 rfl ?_
  refine gw_lmul CX.1 dPutIns_leastWith_11 ?_
  refine cl_PutIns_plus CX (Nat.le_of_ble_eq_true rfl) wm_PutIns_108 dPutIns_leastWith_12 H (fun x1_ F1 G1 H => ?_)
  refine gw_lstore CX.1 dPutIns_leastWith_15 (by decide) rfl ?_
  refine gw_iconst (v := 0) CX.1 dPutIns_leastWith_17 (by decide) ?_
  refine gw_istore CX.1 dPutIns_leastWith_18 (by decide) rfl ?_
  exact gw_sub [2, 3, 4, 5, 1, 0] rfl (H X CX)
theorem ePutIns_plus {D : va_G} {d : Nat} {Q : Int64 → (Nat → Nat → Int32) → (Nat → Int64) → Prop} {F : Nat → Nat → Int32} {G : Nat → Int64} {a0 : Int64} {a1 : Int64} (H : ((¬ (lg_cmp a0 3486784401000000) = 0 → Q (a0 + a1) F G) ∧ ((lg_cmp a0 3486784401000000) = 0 → Q 3486784401000000 F G))) : AMl D (d + 1) nPutIns_plus [.long a0, .long a1] F G Q := by
  refine AM_intro (by decide) (Nat.le_of_ble_eq_true rfl) ?_
  intro X CX
  refine gw_lload_n CX.1 0 rfl dPutIns_plus_0 rfl ?_
  refine gw_ldc2 CX.1 wc_PutIns_41 dPutIns_plus_1 ?_
  refine gw_lcmp CX.1 dPutIns_plus_4 ?_
  refine gw_if_ne (tgt := 14) CX.1 dPutIns_plus_5 (by decide) (fun c => ?_) (fun c => ?_)
  · replace H := H.1 c
    refine gw_lload_n CX.1 0 rfl dPutIns_plus_14 rfl ?_
    refine gw_lload_n CX.1 1 rfl dPutIns_plus_15 rfl ?_
    refine gw_ladd CX.1 dPutIns_plus_16 ?_
    exact gw_lret CX rfl ⟨_, _, _, rfl, rfl, H⟩ (Nat.zero_le _) (Nat.zero_le _) dPutIns_plus_17
  · replace H := H.2 c
    refine gw_ldc2 CX.1 wc_PutIns_41 dPutIns_plus_8 ?_
    refine gw_goto (tgt := 17) CX.1 dPutIns_plus_11 (by decide) ?_
    exact gw_lret CX rfl ⟨_, _, _, rfl, rfl, H⟩ (Nat.zero_le _) (Nat.zero_le _) dPutIns_plus_17
theorem ePutIns_hasPutIn {D : va_G} {d : Nat} {Q : Int32 → (Nat → Nat → Int32) → (Nat → Int64) → Prop} {F : Nat → Nat → Int32} {G : Nat → Int64} {a0 : Int32} {a1 : Int32} (H : vp_in a1 8 ∧ vp_in a1 8 ∧ (((F 30 a1.toNatClampNeg) ≤ 0 → Q 0 F G) ∧ (¬ ((F 30 a1.toNatClampNeg) ≤ 0) → ((((F 29 a1.toNatClampNeg) + 1) ≤ 0 → Q 0 F G) ∧ (¬ (((F 29 a1.toNatClampNeg) + 1) ≤ 0) → ((a0 < (F 30 a1.toNatClampNeg) → Q 0 F G) ∧ (¬ (a0 < (F 30 a1.toNatClampNeg)) → ¬ (F 30 a1.toNatClampNeg) = 0 ∧ ¬ ((F 29 a1.toNatClampNeg) + 1) = 0 ∧ ((((a0 / (F 30 a1.toNatClampNeg)) - (a0 / (F 30 a1.toNatClampNeg)) / ((F 29 a1.toNatClampNeg) + 1) * ((F 29 a1.toNatClampNeg) + 1)) ≤ 0 → Q 0 F G) ∧ (¬ (((a0 / (F 30 a1.toNatClampNeg)) - (a0 / (F 30 a1.toNatClampNeg)) / ((F 29 a1.toNatClampNeg) + 1) * ((F 29 a1.toNatClampNeg) + 1)) ≤ 0) → Q 1 F G))))))))) : AMi D (d + 1) nPutIns_hasPutIn [.ref 29, .int a0, .int a1] F G Q := by
  refine AM_intro (by decide) (Nat.le_of_ble_eq_true rfl) ?_
  intro X CX
  refine gw_aload_n CX.1 0 rfl dPutIns_hasPutIn_0 rfl ?_
  refine gg_PutIns_23 CX.1 rfl dPutIns_hasPutIn_1 ?_
  refine gw_iload_n CX.1 2 rfl dPutIns_hasPutIn_4 rfl ?_
  obtain ⟨hin, H⟩ := H
  refine ga_30 CX.1 hin dPutIns_hasPutIn_5 ?_
  refine gw_istore_n CX.1 dPutIns_hasPutIn_6 rfl (by decide) rfl ?_
  refine gw_aload_n CX.1 1 rfl dPutIns_hasPutIn_7 rfl ?_
  refine gg_PutIns_19 CX.1 rfl dPutIns_hasPutIn_8 ?_
  refine gw_iload_n CX.1 3 rfl dPutIns_hasPutIn_11 rfl ?_
  obtain ⟨hin, H⟩ := H
  refine ga_29 CX.1 hin dPutIns_hasPutIn_12 ?_
  refine gw_iconst (v := 1) CX.1 dPutIns_hasPutIn_13 (by decide) ?_
  refine gw_iadd CX.1 dPutIns_hasPutIn_14 ?_
  refine gw_istore CX.1 dPutIns_hasPutIn_15 (by decide) rfl ?_
  refine gw_iload_n CX.1 1 rfl dPutIns_hasPutIn_17 rfl ?_
  refine gw_if_le (tgt := 44) CX.1 dPutIns_hasPutIn_18 (by decide) (fun c => ?_) (fun c => ?_)
  · replace H := H.1 c
    refine gw_iconst (v := 0) CX.1 dPutIns_hasPutIn_44 (by decide) ?_
    exact gw_iret CX rfl (by decide) ⟨_, _, _, rfl, rfl, H⟩ (Nat.zero_le _) (Nat.zero_le _) dPutIns_hasPutIn_45
  · replace H := H.2 c
    refine gw_iload CX.1 0 rfl dPutIns_hasPutIn_21 ?_
    refine gw_if_le (tgt := 44) CX.1 dPutIns_hasPutIn_23 (by decide) (fun c => ?_) (fun c => ?_)
    · replace H := H.1 c
      refine gw_iconst (v := 0) CX.1 dPutIns_hasPutIn_44 (by decide) ?_
      exact gw_iret CX rfl (by decide) ⟨_, _, _, rfl, rfl, H⟩ (Nat.zero_le _) (Nat.zero_le _) dPutIns_hasPutIn_45
    · replace H := H.2 c
      refine gw_iload_n CX.1 1 rfl dPutIns_hasPutIn_26 rfl ?_
      refine gw_iload_n CX.1 3 rfl dPutIns_hasPutIn_27 rfl ?_
      refine gw_icmp_gt (tgt := 44) CX.1 dPutIns_hasPutIn_28 (by decide) (fun c => ?_) (fun c => ?_)
      · replace H := H.1 c
        refine gw_iconst (v := 0) CX.1 dPutIns_hasPutIn_44 (by decide) ?_
        exact gw_iret CX rfl (by decide) ⟨_, _, _, rfl, rfl, H⟩ (Nat.zero_le _) (Nat.zero_le _) dPutIns_hasPutIn_45
      · replace H := H.2 c
        refine gw_iload_n CX.1 3 rfl dPutIns_hasPutIn_31 rfl ?_
        refine gw_iload_n CX.1 1 rfl dPutIns_hasPutIn_32 rfl ?_
        obtain ⟨hne, H⟩ := H
        refine gw_idiv CX.1 dPutIns_hasPutIn_33 hne ?_
        refine gw_iload CX.1 0 rfl dPutIns_hasPutIn_34 ?_
        obtain ⟨hne, H⟩ := H
        refine gw_irem CX.1 dPutIns_hasPutIn_36 hne ?_
        refine gw_if_le (tgt := 44) CX.1 dPutIns_hasPutIn_37 (by decide) (fun c => ?_) (fun c => ?_)
        · replace H := H.1 c
          refine gw_iconst (v := 0) CX.1 dPutIns_hasPutIn_44 (by decide) ?_
          exact gw_iret CX rfl (by decide) ⟨_, _, _, rfl, rfl, H⟩ (Nat.zero_le _) (Nat.zero_le _) dPutIns_hasPutIn_45
        · replace H := H.2 c
          refine gw_iconst (v := 1) CX.1 dPutIns_hasPutIn_40 (by decide) ?_
          refine gw_goto (tgt := 45) CX.1 dPutIns_hasPutIn_41 (by decide) ?_
          exact gw_iret CX rfl (by decide) ⟨_, _, _, rfl, rfl, H⟩ (Nat.zero_le _) (Nat.zero_le _) dPutIns_hasPutIn_45
theorem ePutIns_leastWorth {D : va_G} {d : Nat} {Q : Int64 → (Nat → Nat → Int32) → (Nat → Int64) → Prop} {F : Nat → Nat → Int32} {G : Nat → Int64} (H : AMi D d nDesk_isWithin [.int (F 107 0), .int 1, .int 576] F G (fun x1_ F1 G1 => ((x1_ = 0 → Q 3486784401000000 F1 G1) ∧ (¬ (x1_ = 0) → vp_in ((F1 107 0) - 1) 576 ∧ Q (G1 ((F1 107 0) - 1).toNatClampNeg) F1 G1)))) : AMl D (d + 1) nPutIns_leastWorth [.ref 29] F G Q := by
  refine AM_intro (by decide) (Nat.le_of_ble_eq_true rfl) ?_
  intro X CX
  refine gw_aload_n CX.1 0 rfl dPutIns_leastWorth_0 rfl ?_
  refine gg_PutIns_33 CX.1 rfl dPutIns_leastWorth_1 ?_
  refine gw_iconst (v := 1) CX.1 dPutIns_leastWorth_4 (by decide) ?_
  refine gw_sipush (v := 576) CX.1 dPutIns_leastWorth_5 (by decide) ?_
  refine cn_Desk_isWithin CX (Nat.le_of_ble_eq_true rfl) wm_PutIns_70 dPutIns_leastWorth_8 H (fun x1_ F1 G1 H => ?_)
  refine gw_if_eq (tgt := 28) CX.1 dPutIns_leastWorth_11 (by decide) (fun c => ?_) (fun c => ?_)
  · replace H := H.1 c
    refine gw_ldc2 CX.1 wc_PutIns_41 dPutIns_leastWorth_28 ?_
    exact gw_lret CX rfl ⟨_, _, _, rfl, rfl, H⟩ (Nat.zero_le _) (Nat.zero_le _) dPutIns_leastWorth_31
  · replace H := H.2 c
    refine gw_aload_n CX.1 0 rfl dPutIns_leastWorth_14 rfl ?_
    refine gg_PutIns_29 CX.1 rfl dPutIns_leastWorth_15 ?_
    refine gw_aload_n CX.1 0 rfl dPutIns_leastWorth_18 rfl ?_
    refine gg_PutIns_33 CX.1 rfl dPutIns_leastWorth_19 ?_
    refine gw_iconst (v := 1) CX.1 dPutIns_leastWorth_22 (by decide) ?_
    refine gw_isub CX.1 dPutIns_leastWorth_23 ?_
    obtain ⟨hin, H⟩ := H
    refine ga_32 CX.1 hin dPutIns_leastWorth_24 ?_
    refine gw_goto (tgt := 31) CX.1 dPutIns_leastWorth_25 (by decide) ?_
    exact gw_lret CX rfl ⟨_, _, _, rfl, rfl, H⟩ (Nat.zero_le _) (Nat.zero_le _) dPutIns_leastWorth_31
theorem ePutIns_hours {D : va_G} {d : Nat} {Q : Int32 → (Nat → Nat → Int32) → (Nat → Int64) → Prop} {F : Nat → Nat → Int32} {G : Nat → Int64} (H : AMl D d nPutIns_leastWorth [.ref 29] F G (fun x1_ F1 G1 => Q ((x1_ / 3486784401).toInt32) F1 G1)) : AMi D (d + 1) nPutIns_hours [.ref 29] F G Q := by
  refine AM_intro (by decide) (Nat.le_of_ble_eq_true rfl) ?_
  intro X CX
  refine gw_aload_n CX.1 0 rfl dPutIns_hours_0 rfl ?_
  refine cl_PutIns_leastWorth CX (Nat.le_of_ble_eq_true rfl) wm_PutIns_63 dPutIns_hours_1 H (fun x1_ F1 G1 H => ?_)
  refine gw_ldc2 CX.1 wc_PutIns_67 dPutIns_hours_4 ?_
  refine gw_ldiv CX.1 dPutIns_hours_7 (by decide) ?_
  refine gw_l2i CX.1 dPutIns_hours_8 ?_
  exact gw_iret CX rfl rfl ⟨_, _, _, rfl, rfl, H⟩ (Nat.zero_le _) (Nat.zero_le _) dPutIns_hours_9
theorem bPutIns_trackOf_14 {D : va_G} {d : Nat} {Q : Int32 → (Nat → Nat → Int32) → (Nat → Int64) → Prop} {F : Nat → Nat → Int32} {G : Nat → Int64} {x1 : Int32} {x2 : Int64} {x4 : Int32} (H : ((10 ≤ x4 → ((¬ (x2 - x2 / 9 * 9).toInt32 = 8 → Q ((x2 - x2 / 9 * 9).toInt32) F G) ∧ ((x2 - x2 / 9 * 9).toInt32 = 8 → Q (-1000000005) F G))) ∧ (¬ (10 ≤ x4) → AWi D (d + 1) nPutIns_trackOf 14 [(0, .ref 29), (1, .int x1), (2, .long (x2 / 9)), (4, .int (x4 + 1))] [] F G Q))) : AWi D (d + 1) nPutIns_trackOf 14 [(0, .ref 29), (1, .int x1), (2, .long x2), (4, .int x4)] [] F G Q := by
  intro X CX
  refine gw_iload CX.1 3 rfl dPutIns_trackOf_14 ?_
  refine gw_bipush (v := 10) CX.1 dPutIns_trackOf_16 (by decide) ?_
  refine gw_icmp_ge (tgt := 33) CX.1 dPutIns_trackOf_18 (by decide) (fun c => ?_) (fun c => ?_)
  · replace H := H.1 c
    refine gw_lload_n CX.1 2 rfl dPutIns_trackOf_33 rfl ?_
    refine gw_ldc2 CX.1 wc_PutIns_61 dPutIns_trackOf_34 ?_
    refine gw_lrem CX.1 dPutIns_trackOf_37 (by decide) ?_
    refine gw_l2i CX.1 dPutIns_trackOf_38 ?_
    refine gw_istore CX.1 dPutIns_trackOf_39 (by decide) rfl ?_
    refine gw_iload CX.1 0 rfl dPutIns_trackOf_41 ?_
    refine gw_bipush (v := 8) CX.1 dPutIns_trackOf_43 (by decide) ?_
    refine gw_icmp_ne (tgt := 53) CX.1 dPutIns_trackOf_45 (by decide) (fun c => ?_) (fun c => ?_)
    · replace H := H.1 c
      refine gw_iload CX.1 0 rfl dPutIns_trackOf_53 ?_
      exact gw_iret CX rfl rfl ⟨_, _, _, rfl, rfl, H⟩ (Nat.zero_le _) (Nat.zero_le _) dPutIns_trackOf_55
    · replace H := H.2 c
      refine gw_ldc CX.1 wc_PutIns_69 dPutIns_trackOf_48 ?_
      refine gw_goto (tgt := 55) CX.1 dPutIns_trackOf_50 (by decide) ?_
      exact gw_iret CX rfl rfl ⟨_, _, _, rfl, rfl, H⟩ (Nat.zero_le _) (Nat.zero_le _) dPutIns_trackOf_55
  · replace H := H.2 c
    refine gw_lload_n CX.1 2 rfl dPutIns_trackOf_21 rfl ?_
    refine gw_ldc2 CX.1 wc_PutIns_61 dPutIns_trackOf_22 ?_
    refine gw_ldiv CX.1 dPutIns_trackOf_25 (by decide) ?_
    refine gw_lstore_n CX.1 dPutIns_trackOf_26 rfl (by decide) rfl ?_
    refine gw_iinc (v := (x4 + 1)) CX.1 3 rfl dPutIns_trackOf_27 rfl (by decide) rfl ?_
    refine gw_goto (tgt := 14) CX.1 dPutIns_trackOf_30 (by decide) ?_
    exact gw_sub [2, 3, 1, 0] rfl (H X CX)
theorem ePutIns_trackOf {D : va_G} {d : Nat} {Q : Int32 → (Nat → Nat → Int32) → (Nat → Int64) → Prop} {F : Nat → Nat → Int32} {G : Nat → Int64} {a0 : Int32} (H : AMl D d nPutIns_leastWorth [.ref 29] F G (fun x1_ F1 G1 => AWi D (d + 1) nPutIns_trackOf 14 [(0, .ref 29), (1, .int a0), (2, .long (x1_ - x1_ / 3486784401 * 3486784401)), (4, .int (a0 + 1))] [] F1 G1 Q)) : AMi D (d + 1) nPutIns_trackOf [.ref 29, .int a0] F G Q := by
  refine AM_intro (by decide) (Nat.le_of_ble_eq_true rfl) ?_
  intro X CX
  refine gw_aload_n CX.1 0 rfl dPutIns_trackOf_0 rfl ?_
  refine cl_PutIns_leastWorth CX (Nat.le_of_ble_eq_true rfl) wm_PutIns_63 dPutIns_trackOf_1 H (fun x1_ F1 G1 H => ?_)
  refine gw_ldc2 CX.1 wc_PutIns_67 dPutIns_trackOf_4 ?_
  refine gw_lrem CX.1 dPutIns_trackOf_7 (by decide) ?_
  refine gw_lstore_n CX.1 dPutIns_trackOf_8 rfl (by decide) rfl ?_
  refine gw_iload_n CX.1 2 rfl dPutIns_trackOf_9 rfl ?_
  refine gw_iconst (v := 1) CX.1 dPutIns_trackOf_10 (by decide) ?_
  refine gw_iadd CX.1 dPutIns_trackOf_11 ?_
  refine gw_istore CX.1 dPutIns_trackOf_12 (by decide) rfl ?_
  exact gw_sub [2, 3, 1, 0] rfl (H X CX)
