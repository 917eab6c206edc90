theorem eModel_track {D : va_G} {d : Nat} {Q : Int32 → (Nat → Nat → Int32) → (Nat → Int64) → Prop} {F : Nat → Nat → Int32} {G : Nat → Int64} {a0 : Int32} (H : AMi D d nModel_isIn [.int a0, .int 1, .int 9] F G (fun x1_ F1 G1 => ((¬ x1_ = 0 → ((¬ (F1 110 0) = 8 → vp_in (F1 110 0) 8 ∧ Q (((upS (up F1 39 ((F1 110 0).toNatClampNeg) a0) 110 (((up F1 39 ((F1 110 0).toNatClampNeg) a0) 110 0) + 1)) 110 0) - 1) (upS (up F1 39 ((F1 110 0).toNatClampNeg) a0) 110 (((up F1 39 ((F1 110 0).toNatClampNeg) a0) 110 0) + 1)) G1) ∧ ((F1 110 0) = 8 → Q (-1000000003) F1 G1))) ∧ (x1_ = 0 → Q (-1000000001) F1 G1)))) : AMi D (d + 1) nModel_track [.ref 39, .int a0] F G Q := by
  refine AM_intro (by decide) (Nat.le_of_ble_eq_true rfl) ?_
  intro X CX
  refine gw_iload_n CX.1 1 rfl dModel_track_0 rfl ?_
  refine gw_iconst (v := 1) CX.1 dModel_track_1 (by decide) ?_
  refine gw_bipush (v := 9) CX.1 dModel_track_2 (by decide) ?_
  refine cl_Model_isIn CX (Nat.le_of_ble_eq_true rfl) wm_Model_78 dModel_track_4 H (fun x1_ F1 G1 H => ?_)
  refine gw_if_ne (tgt := 13) CX.1 dModel_track_7 (by decide) (fun c => ?_) (fun c => ?_)
  · replace H := H.1 c
    refine gw_aload_n CX.1 0 rfl dModel_track_13 rfl ?_
    refine gg_Model_74 CX.1 rfl dModel_track_14 ?_
    refine gw_bipush (v := 8) CX.1 dModel_track_17 (by decide) ?_
    refine gw_icmp_ne (tgt := 25) CX.1 dModel_track_19 (by decide) (fun c => ?_) (fun c => ?_)
    · replace H := H.1 c
      refine gw_aload_n CX.1 0 rfl dModel_track_25 rfl ?_
      refine gg_Model_7 CX.1 rfl dModel_track_26 ?_
      refine gw_aload_n CX.1 0 rfl dModel_track_29 rfl ?_
      refine gg_Model_74 CX.1 rfl dModel_track_30 ?_
      refine gw_iload_n CX.1 1 rfl dModel_track_33 rfl ?_
      obtain ⟨hin, H⟩ := H
      refine gs_39 CX.1 hin dModel_track_34 ?_
      refine gw_aload_n CX.1 0 rfl dModel_track_35 rfl ?_
      refine gw_dup CX.1 dModel_track_36 rfl ?_
      refine gg_Model_74 CX.1 rfl dModel_track_37 ?_
      refine gw_iconst (v := 1) CX.1 dModel_track_40 (by decide) ?_
      refine gw_iadd CX.1 dModel_track_41 ?_
      refine gp_Model_74 CX.1 rfl dModel_track_42 ?_
      refine gw_aload_n CX.1 0 rfl dModel_track_45 rfl ?_
      refine gg_Model_74 CX.1 rfl dModel_track_46 ?_
      refine gw_iconst (v := 1) CX.1 dModel_track_49 (by decide) ?_
      refine gw_isub CX.1 dModel_track_50 ?_
      exact gw_iret CX rfl rfl ⟨_, _, _, rfl, rfl, H⟩ (Nat.zero_le _) (Nat.zero_le _) dModel_track_51
    · replace H := H.2 c
      refine gw_ldc CX.1 wc_Model_86 dModel_track_22 ?_
      exact gw_iret CX rfl rfl ⟨_, _, _, rfl, rfl, H⟩ (Nat.zero_le _) (Nat.zero_le _) dModel_track_24
  · replace H := H.2 c
    refine gw_ldc CX.1 wc_Model_85 dModel_track_10 ?_
    exact gw_iret CX rfl rfl ⟨_, _, _, rfl, rfl, H⟩ (Nat.zero_le _) (Nat.zero_le _) dModel_track_12
theorem eModel_isIn {D : va_G} {d : Nat} {Q : Int32 → (Nat → Nat → Int32) → (Nat → Int64) → Prop} {F : Nat → Nat → Int32} {G : Nat → Int64} {a0 : Int32} {a1 : Int32} {a2 : Int32} (H : ((a0 < a1 → Q 0 F G) ∧ (¬ (a0 < a1) → ((a2 < a0 → Q 0 F G) ∧ (¬ (a2 < a0) → Q 1 F G))))) : AMi D (d + 1) nModel_isIn [.int a0, .int a1, .int a2] F G Q := by
  refine AM_intro (by decide) (Nat.le_of_ble_eq_true rfl) ?_
  intro X CX
  refine gw_iload_n CX.1 0 rfl dModel_isIn_0 rfl ?_
  refine gw_iload_n CX.1 1 rfl dModel_isIn_1 rfl ?_
  refine gw_icmp_lt (tgt := 14) CX.1 dModel_isIn_2 (by decide) (fun c => ?_) (fun c => ?_)
  · replace H := H.1 c
    refine gw_iconst (v := 0) CX.1 dModel_isIn_14 (by decide) ?_
    exact gw_iret CX rfl (by decide) ⟨_, _, _, rfl, rfl, H⟩ (Nat.zero_le _) (Nat.zero_le _) dModel_isIn_15
  · replace H := H.2 c
    refine gw_iload_n CX.1 0 rfl dModel_isIn_5 rfl ?_
    refine gw_iload_n CX.1 2 rfl dModel_isIn_6 rfl ?_
    refine gw_icmp_gt (tgt := 14) CX.1 dModel_isIn_7 (by decide) (fun c => ?_) (fun c => ?_)
    · replace H := H.1 c
      refine gw_iconst (v := 0) CX.1 dModel_isIn_14 (by decide) ?_
      exact gw_iret CX rfl (by decide) ⟨_, _, _, rfl, rfl, H⟩ (Nat.zero_le _) (Nat.zero_le _) dModel_isIn_15
    · replace H := H.2 c
      refine gw_iconst (v := 1) CX.1 dModel_isIn_10 (by decide) ?_
      refine gw_goto (tgt := 15) CX.1 dModel_isIn_11 (by decide) ?_
      exact gw_iret CX rfl (by decide) ⟨_, _, _, rfl, rfl, H⟩ (Nat.zero_le _) (Nat.zero_le _) dModel_isIn_15
theorem bModel_in_31 {D : va_G} {d : Nat} {Q : Int32 → (Nat → Nat → Int32) → (Nat → Int64) → Prop} {F : Nat → Nat → Int32} {G : Nat → Int64} {x1 : Int32} {x2 : Int32} {x3 : Int32} {x4 : Int32} (H : AMi D d nModel_isIn [.int x4, .int 0, .int 1] F G (fun x1_ F1 G1 => ((¬ x1_ = 0 → vp_in ((30 * x1) + x2) 240 ∧ ((¬ x3 = (-1000000005) → AWi D (d + 1) nModel_in 71 [(0, .ref 39), (1, .int x1), (2, .int x2), (3, .int x3), (4, .int x4), (5, .int (F1 40 ((30 * x1) + x2).toNatClampNeg))] [.int x3, .int x2, .int x1, .ref 39] F1 G1 Q) ∧ (x3 = (-1000000005) → AWi D (d + 1) nModel_in 71 [(0, .ref 39), (1, .int x1), (2, .int x2), (3, .int x3), (4, .int x4), (5, .int (F1 40 ((30 * x1) + x2).toNatClampNeg))] [.int (-1), .int x2, .int x1, .ref 39] F1 G1 Q))) ∧ (x1_ = 0 → Q (-1000000001) F1 G1)))) : AWi D (d + 1) nModel_in 31 [(0, .ref 39), (1, .int x1), (2, .int x2), (3, .int x3), (4, .int x4)] [] F G Q := by
  intro X CX
  refine gw_iload CX.1 4 rfl dModel_in_31 ?_
  refine gw_iconst (v := 0) CX.1 dModel_in_33 (by decide) ?_
  refine gw_iconst (v := 1) CX.1 dModel_in_34 (by decide) ?_
  refine cl_Model_isIn CX (Nat.le_of_ble_eq_true rfl) wm_Model_78 dModel_in_35 H (fun x1_ F1 G1 H => ?_)
  refine gw_if_ne (tgt := 44) CX.1 dModel_in_38 (by decide) (fun c => ?_) (fun c => ?_)
  · replace H := H.1 c
    refine gw_aload_n CX.1 0 rfl dModel_in_44 rfl ?_
    refine gg_Model_13 CX.1 rfl dModel_in_45 ?_
    refine gw_bipush (v := 30) CX.1 dModel_in_48 (by decide) ?_
    refine gw_iload_n CX.1 1 rfl dModel_in_50 rfl ?_
    refine gw_imul CX.1 dModel_in_51 ?_
    refine gw_iload_n CX.1 2 rfl dModel_in_52 rfl ?_
    refine gw_iadd CX.1 dModel_in_53 ?_
    obtain ⟨hin, H⟩ := H
    refine ga_40 CX.1 hin dModel_in_54 ?_
    refine gw_istore CX.1 dModel_in_55 (by decide) rfl ?_
    refine gw_aload_n CX.1 1 rfl dModel_in_57 rfl ?_
    refine gw_iload_n CX.1 2 rfl dModel_in_58 rfl ?_
    refine gw_iload_n CX.1 3 rfl dModel_in_59 rfl ?_
    refine gw_iload_n CX.1 4 rfl dModel_in_60 rfl ?_
    refine gw_ldc CX.1 wc_Model_94 dModel_in_61 ?_
    refine gw_icmp_ne (tgt := 70) CX.1 dModel_in_63 (by decide) (fun c => ?_) (fun c => ?_)
    · replace H := H.1 c
      refine gw_iload_n CX.1 4 rfl dModel_in_70 rfl ?_
      exact gw_sub [1, 2, 3, 4, 5, 0] rfl (H X CX)
    · replace H := H.2 c
      refine gw_iconst (v := (-1)) CX.1 dModel_in_66 (by decide) ?_
      refine gw_goto (tgt := 71) CX.1 dModel_in_67 (by decide) ?_
      exact gw_sub [1, 2, 3, 4, 5, 0] rfl (H X CX)
  · replace H := H.2 c
    refine gw_ldc CX.1 wc_Model_85 dModel_in_41 ?_
    exact gw_iret CX rfl rfl ⟨_, _, _, rfl, rfl, H⟩ (Nat.zero_le _) (Nat.zero_le _) dModel_in_43
theorem bModel_in_71 {D : va_G} {d : Nat} {Q : Int32 → (Nat → Nat → Int32) → (Nat → Int64) → Prop} {F : Nat → Nat → Int32} {G : Nat → Int64} {x1 : Int32} {x2 : Int32} {x3 : Int32} {x4 : Int32} {x5 : Int32} {s0 : Int32} {s1 : Int32} {s2 : Int32} (H : AMv D d nModel_put [.ref 39, .int s2, .int s1, .int s0, .int x4] F G (fun F1 G1 => ((0 ≤ x5 → Q x5 F1 G1) ∧ (¬ (0 ≤ x5) → Q (-1000000005) F1 G1)))) : AWi D (d + 1) nModel_in 71 [(0, .ref 39), (1, .int x1), (2, .int x2), (3, .int x3), (4, .int x4), (5, .int x5)] [.int s0, .int s1, .int s2, .ref 39] F G Q := by
  intro X CX
  refine gw_iload CX.1 4 rfl dModel_in_71 ?_
  refine cl_Model_put CX (Nat.le_of_ble_eq_true rfl) wm_Model_95 dModel_in_73 H (fun F1 G1 H => ?_)
  refine gw_iload CX.1 5 rfl dModel_in_76 ?_
  refine gw_if_ge (tgt := 86) CX.1 dModel_in_78 (by decide) (fun c => ?_) (fun c => ?_)
  · replace H := H.1 c
    refine gw_iload CX.1 5 rfl dModel_in_86 ?_
    exact gw_iret CX rfl rfl ⟨_, _, _, rfl, rfl, H⟩ (Nat.zero_le _) (Nat.zero_le _) dModel_in_88
  · replace H := H.2 c
    refine gw_ldc CX.1 wc_Model_94 dModel_in_81 ?_
    refine gw_goto (tgt := 88) CX.1 dModel_in_83 (by decide) ?_
    exact gw_iret CX rfl rfl ⟨_, _, _, rfl, rfl, H⟩ (Nat.zero_le _) (Nat.zero_le _) dModel_in_88
theorem eModel_in {D : va_G} {d : Nat} {Q : Int32 → (Nat → Nat → Int32) → (Nat → Int64) → Prop} {F : Nat → Nat → Int32} {G : Nat → Int64} {a0 : Int32} {a1 : Int32} {a2 : Int32} {a3 : Int32} (H : AMi D d nModel_isTrack [.ref 39, .int a0] F G (fun x1_ F1 G1 => ((x1_ = 0 → Q (-1000000001) F1 G1) ∧ (¬ (x1_ = 0) → AMi D d nModel_isCue [.int a1] F1 G1 (fun x2_ F2 G2 => ((x2_ = 0 → Q (-1000000001) F2 G2) ∧ (¬ (x2_ = 0) → ((a2 = (-1000000005) → AWi D (d + 1) nModel_in 31 [(0, .ref 39), (1, .int a0), (2, .int a1), (3, .int a2), (4, .int a3)] [] F2 G2 Q) ∧ (¬ (a2 = (-1000000005)) → AMi D d nModel_isIn [.int a2, .int 0, .int 9] F2 G2 (fun x3_ F3 G3 => ((x3_ = 0 → Q (-1000000001) F3 G3) ∧ (¬ (x3_ = 0) → AWi D (d + 1) nModel_in 31 [(0, .ref 39), (1, .int a0), (2, .int a1), (3, .int a2), (4, .int a3)] [] F3 G3 Q)))))))))))) : AMi D (d + 1) nModel_in [.ref 39, .int a0, .int a1, .int a2, .int a3] F G Q := by
  refine AM_intro (by decide) (Nat.le_of_ble_eq_true rfl) ?_
  intro X CX
  refine gw_aload_n CX.1 0 rfl dModel_in_0 rfl ?_
  refine gw_iload_n CX.1 1 rfl dModel_in_1 rfl ?_
  refine cl_Model_isTrack CX (Nat.le_of_ble_eq_true rfl) wm_Model_87 dModel_in_2 H (fun x1_ F1 G1 H => ?_)
  refine gw_if_eq (tgt := 41) CX.1 dModel_in_5 (by decide) (fun c => ?_) (fun c => ?_)
  · replace H := H.1 c
    refine gw_ldc CX.1 wc_Model_85 dModel_in_41 ?_
    exact gw_iret CX rfl rfl ⟨_, _, _, rfl, rfl, H⟩ (Nat.zero_le _) (Nat.zero_le _) dModel_in_43
  · replace H := H.2 c
    refine gw_iload_n CX.1 2 rfl dModel_in_8 rfl ?_
    refine cl_Model_isCue CX (Nat.le_of_ble_eq_true rfl) wm_Model_91 dModel_in_9 H (fun x2_ F2 G2 H => ?_)
    refine gw_if_eq (tgt := 41) CX.1 dModel_in_12 (by decide) (fun c => ?_) (fun c => ?_)
    · replace H := H.1 c
      refine gw_ldc CX.1 wc_Model_85 dModel_in_41 ?_
      exact gw_iret CX rfl rfl ⟨_, _, _, rfl, rfl, H⟩ (Nat.zero_le _) (Nat.zero_le _) dModel_in_43
    · replace H := H.2 c
      refine gw_iload_n CX.1 3 rfl dModel_in_15 rfl ?_
      refine gw_ldc CX.1 wc_Model_94 dModel_in_16 ?_
      refine gw_icmp_eq (tgt := 31) CX.1 dModel_in_18 (by decide) (fun c => ?_) (fun c => ?_)
      · replace H := H.1 c
        exact H X CX
      · replace H := H.2 c
        refine gw_iload_n CX.1 3 rfl dModel_in_21 rfl ?_
        refine gw_iconst (v := 0) CX.1 dModel_in_22 (by decide) ?_
        refine gw_bipush (v := 9) CX.1 dModel_in_23 (by decide) ?_
        refine cl_Model_isIn CX (Nat.le_of_ble_eq_true rfl) wm_Model_78 dModel_in_25 H (fun x3_ F3 G3 H => ?_)
        refine gw_if_eq (tgt := 41) CX.1 dModel_in_28 (by decide) (fun c => ?_) (fun c => ?_)
        · replace H := H.1 c
          refine gw_ldc CX.1 wc_Model_85 dModel_in_41 ?_
          exact gw_iret CX rfl rfl ⟨_, _, _, rfl, rfl, H⟩ (Nat.zero_le _) (Nat.zero_le _) dModel_in_43
        · replace H := H.2 c
          exact H X CX
theorem eModel_isTrack {D : va_G} {d : Nat} {Q : Int32 → (Nat → Nat → Int32) → (Nat → Int64) → Prop} {F : Nat → Nat → Int32} {G : Nat → Int64} {a0 : Int32} (H : AMi D d nModel_isIn [.int a0, .int 0, .int ((F 110 0) - 1)] F G (fun x1_ F1 G1 => narrow .boolean (.int x1_) = .int x1_ ∧ Q x1_ F1 G1)) : AMi D (d + 1) nModel_isTrack [.ref 39, .int a0] F G Q := by
  refine AM_intro (by decide) (Nat.le_of_ble_eq_true rfl) ?_
  intro X CX
  refine gw_iload_n CX.1 1 rfl dModel_isTrack_0 rfl ?_
  refine gw_iconst (v := 0) CX.1 dModel_isTrack_1 (by decide) ?_
  refine gw_aload_n CX.1 0 rfl dModel_isTrack_2 rfl ?_
  refine gg_Model_74 CX.1 rfl dModel_isTrack_3 ?_
  refine gw_iconst (v := 1) CX.1 dModel_isTrack_6 (by decide) ?_
  refine gw_isub CX.1 dModel_isTrack_7 ?_
  refine cl_Model_isIn CX (Nat.le_of_ble_eq_true rfl) wm_Model_78 dModel_isTrack_8 H (fun x1_ F1 G1 H => ?_)
  obtain ⟨hn, H⟩ := H
  exact gw_iret CX rfl hn ⟨_, _, _, rfl, rfl, H⟩ (Nat.zero_le _) (Nat.zero_le _) dModel_isTrack_11
theorem eModel_isCue {D : va_G} {d : Nat} {Q : Int32 → (Nat → Nat → Int32) → (Nat → Int64) → Prop} {F : Nat → Nat → Int32} {G : Nat → Int64} {a0 : Int32} (H : AMi D d nModel_isIn [.int a0, .int 0, .int 29] F G (fun x1_ F1 G1 => narrow .boolean (.int x1_) = .int x1_ ∧ Q x1_ F1 G1)) : AMi D (d + 1) nModel_isCue [.int a0] F G Q := by
  refine AM_intro (by decide) (Nat.le_of_ble_eq_true rfl) ?_
  intro X CX
  refine gw_iload_n CX.1 0 rfl dModel_isCue_0 rfl ?_
  refine gw_iconst (v := 0) CX.1 dModel_isCue_1 (by decide) ?_
  refine gw_bipush (v := 29) CX.1 dModel_isCue_2 (by decide) ?_
  refine cl_Model_isIn CX (Nat.le_of_ble_eq_true rfl) wm_Model_78 dModel_isCue_4 H (fun x1_ F1 G1 H => ?_)
  obtain ⟨hn, H⟩ := H
  exact gw_iret CX rfl hn ⟨_, _, _, rfl, rfl, H⟩ (Nat.zero_le _) (Nat.zero_le _) dModel_isCue_7
theorem bModel_put_32 {D : va_G} {d : Nat} {Q : (Nat → Nat → Int32) → (Nat → Int64) → Prop} {F : Nat → Nat → Int32} {G : Nat → Int64} {x1 : Int32} {x2 : Int32} {x3 : Int32} {x4 : Int32} {s0 : Int32} {s1 : Int32} (H : vp_in s1 240 ∧ vp_in x2 30 ∧ ((((up F 41 (s1.toNatClampNeg) s0) 42 x2.toNatClampNeg) = x1 → vp_in x2 30 ∧ Q (up (up F 41 (s1.toNatClampNeg) s0) 42 (x2.toNatClampNeg) (-1)) G) ∧ (¬ (((up F 41 (s1.toNatClampNeg) s0) 42 x2.toNatClampNeg) = x1) → vp_in x2 30 ∧ ((((up F 41 (s1.toNatClampNeg) s0) 42 x2.toNatClampNeg) < 0 → Q (up F 41 (s1.toNatClampNeg) s0) G) ∧ (¬ (((up F 41 (s1.toNatClampNeg) s0) 42 x2.toNatClampNeg) < 0) → vp_in x2 30 ∧ ((¬ ((up F 41 (s1.toNatClampNeg) s0) 43 x2.toNatClampNeg) = x1 → Q (up F 41 (s1.toNatClampNeg) s0) G) ∧ (((up F 41 (s1.toNatClampNeg) s0) 43 x2.toNatClampNeg) = x1 → vp_in x2 30 ∧ Q (up (up F 41 (s1.toNatClampNeg) s0) 42 (x2.toNatClampNeg) (-1)) G))))))) : AWv D (d + 1) nModel_put 32 [(0, .ref 39), (1, .int x1), (2, .int x2), (3, .int x3), (4, .int x4)] [.int s0, .int s1, .ref 42] F G Q := by
  intro X CX
  obtain ⟨hin, H⟩ := H
  refine gs_41 CX.1 hin dModel_put_32 ?_
  refine gw_aload_n CX.1 0 rfl dModel_put_33 rfl ?_
  refine gg_Model_19 CX.1 rfl dModel_put_34 ?_
  refine gw_iload_n CX.1 2 rfl dModel_put_37 rfl ?_
  obtain ⟨hin, H⟩ := H
  refine ga_42 CX.1 hin dModel_put_38 ?_
  refine gw_iload_n CX.1 1 rfl dModel_put_39 rfl ?_
  refine gw_icmp_eq (tgt := 62) CX.1 dModel_put_40 (by decide) (fun c => ?_) (fun c => ?_)
  · replace H := H.1 c
    refine gw_aload_n CX.1 0 rfl dModel_put_62 rfl ?_
    refine gg_Model_19 CX.1 rfl dModel_put_63 ?_
    refine gw_iload_n CX.1 2 rfl dModel_put_66 rfl ?_
    refine gw_iconst (v := (-1)) CX.1 dModel_put_67 (by decide) ?_
    obtain ⟨hin, H⟩ := H
    refine gs_42 CX.1 hin dModel_put_68 ?_
    exact gw_vret CX rfl ⟨_, _, rfl, rfl, H⟩ (Nat.zero_le _) (Nat.zero_le _) dModel_put_69
  · replace H := H.2 c
    refine gw_aload_n CX.1 0 rfl dModel_put_43 rfl ?_
    refine gg_Model_19 CX.1 rfl dModel_put_44 ?_
    refine gw_iload_n CX.1 2 rfl dModel_put_47 rfl ?_
    obtain ⟨hin, H⟩ := H
    refine ga_42 CX.1 hin dModel_put_48 ?_
    refine gw_if_lt (tgt := 69) CX.1 dModel_put_49 (by decide) (fun c => ?_) (fun c => ?_)
    · replace H := H.1 c
      exact gw_vret CX rfl ⟨_, _, rfl, rfl, H⟩ (Nat.zero_le _) (Nat.zero_le _) dModel_put_69
    · replace H := H.2 c
      refine gw_aload_n CX.1 0 rfl dModel_put_52 rfl ?_
      refine gg_Model_22 CX.1 rfl dModel_put_53 ?_
      refine gw_iload_n CX.1 2 rfl dModel_put_56 rfl ?_
      obtain ⟨hin, H⟩ := H
      refine ga_43 CX.1 hin dModel_put_57 ?_
      refine gw_iload_n CX.1 1 rfl dModel_put_58 rfl ?_
      refine gw_icmp_ne (tgt := 69) CX.1 dModel_put_59 (by decide) (fun c => ?_) (fun c => ?_)
      · replace H := H.1 c
        exact gw_vret CX rfl ⟨_, _, rfl, rfl, H⟩ (Nat.zero_le _) (Nat.zero_le _) dModel_put_69
      · replace H := H.2 c
        refine gw_aload_n CX.1 0 rfl dModel_put_62 rfl ?_
        refine gg_Model_19 CX.1 rfl dModel_put_63 ?_
        refine gw_iload_n CX.1 2 rfl dModel_put_66 rfl ?_
        refine gw_iconst (v := (-1)) CX.1 dModel_put_67 (by decide) ?_
        obtain ⟨hin, H⟩ := H
        refine gs_42 CX.1 hin dModel_put_68 ?_
        exact gw_vret CX rfl ⟨_, _, rfl, rfl, H⟩ (Nat.zero_le _) (Nat.zero_le _) dModel_put_69
theorem eModel_put {D : va_G} {d : Nat} {Q : (Nat → Nat → Int32) → (Nat → Int64) → Prop} {F : Nat → Nat → Int32} {G : Nat → Int64} {a0 : Int32} {a1 : Int32} {a2 : Int32} {a3 : Int32} (H : vp_in ((30 * a0) + a1) 240 ∧ ((0 ≤ a2 → AWv D (d + 1) nModel_put 32 [(0, .ref 39), (1, .int a0), (2, .int a1), (3, .int a2), (4, .int a3)] [.int a3, .int ((30 * a0) + a1), .ref 42] (up F 40 (((30 * a0) + a1).toNatClampNeg) a2) G Q) ∧ (¬ (0 ≤ a2) → AWv D (d + 1) nModel_put 32 [(0, .ref 39), (1, .int a0), (2, .int a1), (3, .int a2), (4, .int a3)] [.int 0, .int ((30 * a0) + a1), .ref 42] (up F 40 (((30 * a0) + a1).toNatClampNeg) a2) G Q))) : AMv D (d + 1) nModel_put [.ref 39, .int a0, .int a1, .int a2, .int a3] F G Q := by
  refine AM_intro (by decide) (Nat.le_of_ble_eq_true rfl) ?_
  intro X CX
  refine gw_aload_n CX.1 0 rfl dModel_put_0 rfl ?_
  refine gg_Model_13 CX.1 rfl dModel_put_1 ?_
  refine gw_bipush (v := 30) CX.1 dModel_put_4 (by decide) ?_
  refine gw_iload_n CX.1 1 rfl dModel_put_6 rfl ?_
  refine gw_imul CX.1 dModel_put_7 ?_
  refine gw_iload_n CX.1 2 rfl dModel_put_8 rfl ?_
  refine gw_iadd CX.1 dModel_put_9 ?_
  refine gw_iload_n CX.1 3 rfl dModel_put_10 rfl ?_
  obtain ⟨hin, H⟩ := H
  refine gs_40 CX.1 hin dModel_put_11 ?_
  refine gw_aload_n CX.1 0 rfl dModel_put_12 rfl ?_
  refine gg_Model_16 CX.1 rfl dModel_put_13 ?_
  refine gw_bipush (v := 30) CX.1 dModel_put_16 (by decide) ?_
  refine gw_iload_n CX.1 1 rfl dModel_put_18 rfl ?_
  refine gw_imul CX.1 dModel_put_19 ?_
  refine gw_iload_n CX.1 2 rfl dModel_put_20 rfl ?_
  refine gw_iadd CX.1 dModel_put_21 ?_
  refine gw_iload_n CX.1 3 rfl dModel_put_22 rfl ?_
  refine gw_if_ge (tgt := 30) CX.1 dModel_put_23 (by decide) (fun c => ?_) (fun c => ?_)
  · replace H := H.1 c
    refine gw_iload CX.1 4 rfl dModel_put_30 ?_
    exact H X CX
  · replace H := H.2 c
    refine gw_iconst (v := 0) CX.1 dModel_put_26 (by decide) ?_
    refine gw_goto (tgt := 32) CX.1 dModel_put_27 (by decide) ?_
    exact H X CX
theorem bModel_lift_37 {D : va_G} {d : Nat} {Q : Int32 → (Nat → Nat → Int32) → (Nat → Int64) → Prop} {F : Nat → Nat → Int32} {G : Nat → Int64} {x1 : Int32} {x2 : Int32} {x3 : Int32} (H : ((x2 = (-1000000005) → AWi D (d + 1) nModel_lift 64 [(0, .ref 39), (1, .int x1), (2, .int x2), (3, .int x3)] [] F G Q) ∧ (¬ (x2 = (-1000000005)) → AMi D d nModel_is [.ref 39, .int x2, .int x1] F G (fun x1_ F1 G1 => ((x1_ = 0 → Q (-1000000002) F1 G1) ∧ (¬ (x1_ = 0) → AMi D d nModel_is [.ref 39, .int x3, .int x1] F1 G1 (fun x2_ F2 G2 => ((¬ x2_ = 0 → AWi D (d + 1) nModel_lift 64 [(0, .ref 39), (1, .int x1), (2, .int x2), (3, .int x3)] [] F2 G2 Q) ∧ (x2_ = 0 → Q (-1000000002) F2 G2))))))))) : AWi D (d + 1) nModel_lift 37 [(0, .ref 39), (1, .int x1), (2, .int x2), (3, .int x3)] [] F G Q := by
  intro X CX
  refine gw_iload_n CX.1 2 rfl dModel_lift_37 rfl ?_
  refine gw_ldc CX.1 wc_Model_94 dModel_lift_38 ?_
  refine gw_icmp_eq (tgt := 64) CX.1 dModel_lift_40 (by decide) (fun c => ?_) (fun c => ?_)
  · replace H := H.1 c
    exact H X CX
  · replace H := H.2 c
    refine gw_aload_n CX.1 0 rfl dModel_lift_43 rfl ?_
    refine gw_iload_n CX.1 2 rfl dModel_lift_44 rfl ?_
    refine gw_iload_n CX.1 1 rfl dModel_lift_45 rfl ?_
    refine cl_Model_is CX (Nat.le_of_ble_eq_true rfl) wm_Model_99 dModel_lift_46 H (fun x1_ F1 G1 H => ?_)
    refine gw_if_eq (tgt := 61) CX.1 dModel_lift_49 (by decide) (fun c => ?_) (fun c => ?_)
    · replace H := H.1 c
      refine gw_ldc CX.1 wc_Model_103 dModel_lift_61 ?_
      exact gw_iret CX rfl rfl ⟨_, _, _, rfl, rfl, H⟩ (Nat.zero_le _) (Nat.zero_le _) dModel_lift_63
    · replace H := H.2 c
      refine gw_aload_n CX.1 0 rfl dModel_lift_52 rfl ?_
      refine gw_iload_n CX.1 3 rfl dModel_lift_53 rfl ?_
      refine gw_iload_n CX.1 1 rfl dModel_lift_54 rfl ?_
      refine cl_Model_is CX (Nat.le_of_ble_eq_true rfl) wm_Model_99 dModel_lift_55 H (fun x2_ F2 G2 H => ?_)
      refine gw_if_ne (tgt := 64) CX.1 dModel_lift_58 (by decide) (fun c => ?_) (fun c => ?_)
      · replace H := H.1 c
        exact H X CX
      · replace H := H.2 c
        refine gw_ldc CX.1 wc_Model_103 dModel_lift_61 ?_
        exact gw_iret CX rfl rfl ⟨_, _, _, rfl, rfl, H⟩ (Nat.zero_le _) (Nat.zero_le _) dModel_lift_63
theorem bModel_lift_64 {D : va_G} {d : Nat} {Q : Int32 → (Nat → Nat → Int32) → (Nat → Int64) → Prop} {F : Nat → Nat → Int32} {G : Nat → Int64} {x1 : Int32} {x2 : Int32} {x3 : Int32} (H : vp_in x1 30 ∧ ((0 ≤ (F 42 x1.toNatClampNeg) → AWi D (d + 1) nModel_lift 78 [(0, .ref 39), (1, .int x1), (2, .int x2), (3, .int x3)] [.int 1] F G Q) ∧ (¬ (0 ≤ (F 42 x1.toNatClampNeg)) → AWi D (d + 1) nModel_lift 78 [(0, .ref 39), (1, .int x1), (2, .int x2), (3, .int x3)] [.int 0] F G Q))) : AWi D (d + 1) nModel_lift 64 [(0, .ref 39), (1, .int x1), (2, .int x2), (3, .int x3)] [] F G Q := by
  intro X CX
  refine gw_aload_n CX.1 0 rfl dModel_lift_64 rfl ?_
  refine gg_Model_19 CX.1 rfl dModel_lift_65 ?_
  refine gw_iload_n CX.1 1 rfl dModel_lift_68 rfl ?_
  obtain ⟨hin, H⟩ := H
  refine ga_42 CX.1 hin dModel_lift_69 ?_
  refine gw_if_ge (tgt := 77) CX.1 dModel_lift_70 (by decide) (fun c => ?_) (fun c => ?_)
  · replace H := H.1 c
    refine gw_iconst (v := 1) CX.1 dModel_lift_77 (by decide) ?_
    exact H X CX
  · replace H := H.2 c
    refine gw_iconst (v := 0) CX.1 dModel_lift_73 (by decide) ?_
    refine gw_goto (tgt := 78) CX.1 dModel_lift_74 (by decide) ?_
    exact H X CX
theorem bModel_lift_78 {D : va_G} {d : Nat} {Q : Int32 → (Nat → Nat → Int32) → (Nat → Int64) → Prop} {F : Nat → Nat → Int32} {G : Nat → Int64} {x1 : Int32} {x2 : Int32} {x3 : Int32} {s0 : Int32} (H : ((¬ x2 = (-1000000005) → vp_in x1 30 ∧ vp_in x1 30 ∧ Q s0 (up (up F 42 (x1.toNatClampNeg) x2) 43 (x1.toNatClampNeg) x3) G) ∧ (x2 = (-1000000005) → vp_in x1 30 ∧ vp_in x1 30 ∧ Q s0 (up (up F 42 (x1.toNatClampNeg) (-1)) 43 (x1.toNatClampNeg) x3) G))) : AWi D (d + 1) nModel_lift 78 [(0, .ref 39), (1, .int x1), (2, .int x2), (3, .int x3)] [.int s0] F G Q := by
  intro X CX
  refine gw_istore CX.1 dModel_lift_78 (by decide) rfl ?_
  refine gw_aload_n CX.1 1 rfl dModel_lift_80 rfl ?_
  refine gg_Model_19 CX.1 rfl dModel_lift_81 ?_
  refine gw_iload_n CX.1 2 rfl dModel_lift_84 rfl ?_
  refine gw_iload_n CX.1 3 rfl dModel_lift_85 rfl ?_
  refine gw_ldc CX.1 wc_Model_94 dModel_lift_86 ?_
  refine gw_icmp_ne (tgt := 95) CX.1 dModel_lift_88 (by decide) (fun c => ?_) (fun c => ?_)
  · replace H := H.1 c
    refine gw_iload_n CX.1 3 rfl dModel_lift_95 rfl ?_
    obtain ⟨hin, H⟩ := H
    refine gs_42 CX.1 hin dModel_lift_96 ?_
    refine gw_aload_n CX.1 1 rfl dModel_lift_97 rfl ?_
    refine gg_Model_22 CX.1 rfl dModel_lift_98 ?_
    refine gw_iload_n CX.1 2 rfl dModel_lift_101 rfl ?_
    refine gw_iload_n CX.1 4 rfl dModel_lift_102 rfl ?_
    obtain ⟨hin, H⟩ := H
    refine gs_43 CX.1 hin dModel_lift_103 ?_
    refine gw_iload CX.1 0 rfl dModel_lift_104 ?_
    exact gw_iret CX rfl rfl ⟨_, _, _, rfl, rfl, H⟩ (Nat.zero_le _) (Nat.zero_le _) dModel_lift_106
  · replace H := H.2 c
    refine gw_iconst (v := (-1)) CX.1 dModel_lift_91 (by decide) ?_
    refine gw_goto (tgt := 96) CX.1 dModel_lift_92 (by decide) ?_
    obtain ⟨hin, H⟩ := H
    refine gs_42 CX.1 hin dModel_lift_96 ?_
    refine gw_aload_n CX.1 1 rfl dModel_lift_97 rfl ?_
    refine gg_Model_22 CX.1 rfl dModel_lift_98 ?_
    refine gw_iload_n CX.1 2 rfl dModel_lift_101 rfl ?_
    refine gw_iload_n CX.1 4 rfl dModel_lift_102 rfl ?_
    obtain ⟨hin, H⟩ := H
    refine gs_43 CX.1 hin dModel_lift_103 ?_
    refine gw_iload CX.1 0 rfl dModel_lift_104 ?_
    exact gw_iret CX rfl rfl ⟨_, _, _, rfl, rfl, H⟩ (Nat.zero_le _) (Nat.zero_le _) dModel_lift_106
theorem eModel_lift {D : va_G} {d : Nat} {Q : Int32 → (Nat → Nat → Int32) → (Nat → Int64) → Prop} {F : Nat → Nat → Int32} {G : Nat → Int64} {a0 : Int32} {a1 : Int32} {a2 : Int32} (H : AMi D d nModel_isCue [.int a0] F G (fun x1_ F1 G1 => ((x1_ = 0 → Q (-1000000001) F1 G1) ∧ (¬ (x1_ = 0) → ((a1 = (-1000000005) → AWi D (d + 1) nModel_lift 37 [(0, .ref 39), (1, .int a0), (2, .int a1), (3, .int a2)] [] F1 G1 Q) ∧ (¬ (a1 = (-1000000005)) → AMi D d nModel_isTrack [.ref 39, .int a1] F1 G1 (fun x2_ F2 G2 => ((x2_ = 0 → Q (-1000000001) F2 G2) ∧ (¬ (x2_ = 0) → AMi D d nModel_isTrack [.ref 39, .int a2] F2 G2 (fun x3_ F3 G3 => ((x3_ = 0 → Q (-1000000001) F3 G3) ∧ (¬ (x3_ = 0) → ((¬ a1 = a2 → AWi D (d + 1) nModel_lift 37 [(0, .ref 39), (1, .int a0), (2, .int a1), (3, .int a2)] [] F3 G3 Q) ∧ (a1 = a2 → Q (-1000000001) F3 G3)))))))))))))) : AMi D (d + 1) nModel_lift [.ref 39, .int a0, .int a1, .int a2] F G Q := by
  refine AM_intro (by decide) (Nat.le_of_ble_eq_true rfl) ?_
  intro X CX
  refine gw_iload_n CX.1 1 rfl dModel_lift_0 rfl ?_
  refine cl_Model_isCue CX (Nat.le_of_ble_eq_true rfl) wm_Model_91 dModel_lift_1 H (fun x1_ F1 G1 H => ?_)
  refine gw_if_eq (tgt := 34) CX.1 dModel_lift_4 (by decide) (fun c => ?_) (fun c => ?_)
  · replace H := H.1 c
    refine gw_ldc CX.1 wc_Model_85 dModel_lift_34 ?_
    exact gw_iret CX rfl rfl ⟨_, _, _, rfl, rfl, H⟩ (Nat.zero_le _) (Nat.zero_le _) dModel_lift_36
  · replace H := H.2 c
    refine gw_iload_n CX.1 2 rfl dModel_lift_7 rfl ?_
    refine gw_ldc CX.1 wc_Model_94 dModel_lift_8 ?_
    refine gw_icmp_eq (tgt := 37) CX.1 dModel_lift_10 (by decide) (fun c => ?_) (fun c => ?_)
    · replace H := H.1 c
      exact H X CX
    · replace H := H.2 c
      refine gw_aload_n CX.1 0 rfl dModel_lift_13 rfl ?_
      refine gw_iload_n CX.1 2 rfl dModel_lift_14 rfl ?_
      refine cl_Model_isTrack CX (Nat.le_of_ble_eq_true rfl) wm_Model_87 dModel_lift_15 H (fun x2_ F2 G2 H => ?_)
      refine gw_if_eq (tgt := 34) CX.1 dModel_lift_18 (by decide) (fun c => ?_) (fun c => ?_)
      · replace H := H.1 c
        refine gw_ldc CX.1 wc_Model_85 dModel_lift_34 ?_
        exact gw_iret CX rfl rfl ⟨_, _, _, rfl, rfl, H⟩ (Nat.zero_le _) (Nat.zero_le _) dModel_lift_36
      · replace H := H.2 c
        refine gw_aload_n CX.1 0 rfl dModel_lift_21 rfl ?_
        refine gw_iload_n CX.1 3 rfl dModel_lift_22 rfl ?_
        refine cl_Model_isTrack CX (Nat.le_of_ble_eq_true rfl) wm_Model_87 dModel_lift_23 H (fun x3_ F3 G3 H => ?_)
        refine gw_if_eq (tgt := 34) CX.1 dModel_lift_26 (by decide) (fun c => ?_) (fun c => ?_)
        · replace H := H.1 c
          refine gw_ldc CX.1 wc_Model_85 dModel_lift_34 ?_
          exact gw_iret CX rfl rfl ⟨_, _, _, rfl, rfl, H⟩ (Nat.zero_le _) (Nat.zero_le _) dModel_lift_36
        · replace H := H.2 c
          refine gw_iload_n CX.1 2 rfl dModel_lift_29 rfl ?_
          refine gw_iload_n CX.1 3 rfl dModel_lift_30 rfl ?_
          refine gw_icmp_ne (tgt := 37) CX.1 dModel_lift_31 (by decide) (fun c => ?_) (fun c => ?_)
          · replace H := H.1 c
            exact H X CX
          · replace H := H.2 c
            refine gw_ldc CX.1 wc_Model_85 dModel_lift_34 ?_
            exact gw_iret CX rfl rfl ⟨_, _, _, rfl, rfl, H⟩ (Nat.zero_le _) (Nat.zero_le _) dModel_lift_36
theorem eModel_is {D : va_G} {d : Nat} {Q : Int32 → (Nat → Nat → Int32) → (Nat → Int64) → Prop} {F : Nat → Nat → Int32} {G : Nat → Int64} {a0 : Int32} {a1 : Int32} (H : vp_in ((30 * a0) + a1) 240 ∧ (((F 40 ((30 * a0) + a1).toNatClampNeg) < 0 → Q 0 F G) ∧ (¬ ((F 40 ((30 * a0) + a1).toNatClampNeg) < 0) → Q 1 F G))) : AMi D (d + 1) nModel_is [.ref 39, .int a0, .int a1] F G Q := by
  refine AM_intro (by decide) (Nat.le_of_ble_eq_true rfl) ?_
  intro X CX
  refine gw_aload_n CX.1 0 rfl dModel_is_0 rfl ?_
  refine gg_Model_13 CX.1 rfl dModel_is_1 ?_
  refine gw_bipush (v := 30) CX.1 dModel_is_4 (by decide) ?_
  refine gw_iload_n CX.1 1 rfl dModel_is_6 rfl ?_
  refine gw_imul CX.1 dModel_is_7 ?_
  refine gw_iload_n CX.1 2 rfl dModel_is_8 rfl ?_
  refine gw_iadd CX.1 dModel_is_9 ?_
  obtain ⟨hin, H⟩ := H
  refine ga_40 CX.1 hin dModel_is_10 ?_
  refine gw_if_lt (tgt := 18) CX.1 dModel_is_11 (by decide) (fun c => ?_) (fun c => ?_)
  · replace H := H.1 c
    refine gw_iconst (v := 0) CX.1 dModel_is_18 (by decide) ?_
    exact gw_iret CX rfl (by decide) ⟨_, _, _, rfl, rfl, H⟩ (Nat.zero_le _) (Nat.zero_le _) dModel_is_19
  · replace H := H.2 c
    refine gw_iconst (v := 1) CX.1 dModel_is_14 (by decide) ?_
    refine gw_goto (tgt := 19) CX.1 dModel_is_15 (by decide) ?_
    exact gw_iret CX rfl (by decide) ⟨_, _, _, rfl, rfl, H⟩ (Nat.zero_le _) (Nat.zero_le _) dModel_is_19
theorem bModel_lay_104 {D : va_G} {d : Nat} {Q : Int32 → (Nat → Nat → Int32) → (Nat → Int64) → Prop} {F : Nat → Nat → Int32} {G : Nat → Int64} {x1 : Int32} {x2 : Int32} {x3 : Int32} {x4 : Int32} {x5 : Int32} {s0 : Int32} {s1 : Int32} {s2 : Int32} (H : AMv D d nModel_put [.ref 39, .int s2, .int s1, .int s0, .int 0] F G (fun F1 G1 => AWi D (d + 1) nModel_lay 56 [(0, .ref 39), (1, .int x1), (2, .int x2), (3, .int x3), (4, .int (x4 + 1))] [] F1 G1 Q)) : AWi D (d + 1) nModel_lay 104 [(0, .ref 39), (1, .int x1), (2, .int x2), (3, .int x3), (4, .int x4), (5, .int x5)] [.int s0, .int s1, .int s2, .ref 39] F G Q := by
  intro X CX
  refine gw_iconst (v := 0) CX.1 dModel_lay_104 (by decide) ?_
  refine cl_Model_put CX (Nat.le_of_ble_eq_true rfl) wm_Model_95 dModel_lay_105 H (fun F1 G1 H => ?_)
  refine gw_iinc (v := (x4 + 1)) CX.1 4 rfl dModel_lay_108 rfl (by decide) rfl ?_
  refine gw_goto (tgt := 56) CX.1 dModel_lay_111 (by decide) ?_
  exact gw_sub [1, 2, 3, 4, 0] rfl (H X CX)
theorem bModel_lay_56 {D : va_G} {d : Nat} {Q : Int32 → (Nat → Nat → Int32) → (Nat → Int64) → Prop} {F : Nat → Nat → Int32} {G : Nat → Int64} {x1 : Int32} {x2 : Int32} {x3 : Int32} {x4 : Int32} (H : vp_in x3 2 ∧ (((F 53 x3.toNatClampNeg) ≤ x4 → vp_in x3 2 ∧ Q (F 53 x3.toNatClampNeg) F G) ∧ (¬ ((F 53 x3.toNatClampNeg) ≤ x4) → vp_in ((30 * x3) + x4) 60 ∧ AMi D d nModel_isIn [.int (F 54 ((30 * x3) + x4).toNatClampNeg), .int 0, .int 9] F G (fun x1_ F1 G1 => ((x1_ = 0 → AWi D (d + 1) nModel_lay 104 [(0, .ref 39), (1, .int x1), (2, .int x2), (3, .int x3), (4, .int x4), (5, .int (F 54 ((30 * x3) + x4).toNatClampNeg))] [.int (-1), .int (x2 + x4), .int x1, .ref 39] F1 G1 Q) ∧ (¬ (x1_ = 0) → AWi D (d + 1) nModel_lay 104 [(0, .ref 39), (1, .int x1), (2, .int x2), (3, .int x3), (4, .int x4), (5, .int (F 54 ((30 * x3) + x4).toNatClampNeg))] [.int (F 54 ((30 * x3) + x4).toNatClampNeg), .int (x2 + x4), .int x1, .ref 39] F1 G1 Q)))))) : AWi D (d + 1) nModel_lay 56 [(0, .ref 39), (1, .int x1), (2, .int x2), (3, .int x3), (4, .int x4)] [] F G Q := by
  intro X CX
  refine gw_iload CX.1 4 rfl dModel_lay_56 ?_
  refine gw_aload_n CX.1 0 rfl dModel_lay_58 rfl ?_
  refine gg_Model_52 CX.1 rfl dModel_lay_59 ?_
  refine gw_iload_n CX.1 3 rfl dModel_lay_62 rfl ?_
  obtain ⟨hin, H⟩ := H
  refine ga_53 CX.1 hin dModel_lay_63 ?_
  refine gw_icmp_ge (tgt := 114) CX.1 dModel_lay_64 (by decide) (fun c => ?_) (fun c => ?_)
  · replace H := H.1 c
    refine gw_aload_n CX.1 0 rfl dModel_lay_114 rfl ?_
    refine gg_Model_52 CX.1 rfl dModel_lay_115 ?_
    refine gw_iload_n CX.1 3 rfl dModel_lay_118 rfl ?_
    obtain ⟨hin, H⟩ := H
    refine ga_53 CX.1 hin dModel_lay_119 ?_
    exact gw_iret CX rfl rfl ⟨_, _, _, rfl, rfl, H⟩ (Nat.zero_le _) (Nat.zero_le _) dModel_lay_120
  · replace H := H.2 c
    refine gw_aload_n CX.1 0 rfl dModel_lay_67 rfl ?_
    refine gg_Model_55 CX.1 rfl dModel_lay_68 ?_
    refine gw_bipush (v := 30) CX.1 dModel_lay_71 (by decide) ?_
    refine gw_iload_n CX.1 3 rfl dModel_lay_73 rfl ?_
    refine gw_imul CX.1 dModel_lay_74 ?_
    refine gw_iload CX.1 4 rfl dModel_lay_75 ?_
    refine gw_iadd CX.1 dModel_lay_77 ?_
    obtain ⟨hin, H⟩ := H
    refine ga_54 CX.1 hin dModel_lay_78 ?_
    refine gw_istore CX.1 dModel_lay_79 (by decide) rfl ?_
    refine gw_aload_n CX.1 1 rfl dModel_lay_81 rfl ?_
    refine gw_iload_n CX.1 2 rfl dModel_lay_82 rfl ?_
    refine gw_iload_n CX.1 3 rfl dModel_lay_83 rfl ?_
    refine gw_iload CX.1 5 rfl dModel_lay_84 ?_
    refine gw_iadd CX.1 dModel_lay_86 ?_
    refine gw_iload CX.1 0 rfl dModel_lay_87 ?_
    refine gw_iconst (v := 0) CX.1 dModel_lay_89 (by decide) ?_
    refine gw_bipush (v := 9) CX.1 dModel_lay_90 (by decide) ?_
    refine cl_Model_isIn CX (Nat.le_of_ble_eq_true rfl) wm_Model_78 dModel_lay_92 H (fun x1_ F1 G1 H => ?_)
    refine gw_if_eq (tgt := 103) CX.1 dModel_lay_95 (by decide) (fun c => ?_) (fun c => ?_)
    · replace H := H.1 c
      refine gw_iconst (v := (-1)) CX.1 dModel_lay_103 (by decide) ?_
      exact gw_sub [1, 2, 3, 4, 5, 0] rfl (H X CX)
    · replace H := H.2 c
      refine gw_iload CX.1 0 rfl dModel_lay_98 ?_
      refine gw_goto (tgt := 104) CX.1 dModel_lay_100 (by decide) ?_
      exact gw_sub [1, 2, 3, 4, 5, 0] rfl (H X CX)
theorem eModel_lay {D : va_G} {d : Nat} {Q : Int32 → (Nat → Nat → Int32) → (Nat → Int64) → Prop} {F : Nat → Nat → Int32} {G : Nat → Int64} {a0 : Int32} {a1 : Int32} {a2 : Int32} (H : AMi D d nModel_isTrack [.ref 39, .int a0] F G (fun x1_ F1 G1 => ((x1_ = 0 → Q (-1000000001) F1 G1) ∧ (¬ (x1_ = 0) → AMi D d nModel_isCue [.int a1] F1 G1 (fun x2_ F2 G2 => ((x2_ = 0 → Q (-1000000001) F2 G2) ∧ (¬ (x2_ = 0) → AMi D d nModel_isSheet [.int a2] F2 G2 (fun x3_ F3 G3 => ((¬ x3_ = 0 → vp_in a2 2 ∧ ((0 ≤ (F3 53 a2.toNatClampNeg) → vp_in a2 2 ∧ (((F3 53 a2.toNatClampNeg) ≤ (30 - a1) → AWi D (d + 1) nModel_lay 56 [(0, .ref 39), (1, .int a0), (2, .int a1), (3, .int a2), (4, .int 0)] [] F3 G3 Q) ∧ (¬ ((F3 53 a2.toNatClampNeg) ≤ (30 - a1)) → Q (-1000000013) F3 G3))) ∧ (¬ (0 ≤ (F3 53 a2.toNatClampNeg)) → Q (-1000000011) F3 G3))) ∧ (x3_ = 0 → Q (-1000000001) F3 G3)))))))))) : AMi D (d + 1) nModel_lay [.ref 39, .int a0, .int a1, .int a2] F G Q := by
  refine AM_intro (by decide) (Nat.le_of_ble_eq_true rfl) ?_
  intro X CX
  refine gw_aload_n CX.1 0 rfl dModel_lay_0 rfl ?_
  refine gw_iload_n CX.1 1 rfl dModel_lay_1 rfl ?_
  refine cl_Model_isTrack CX (Nat.le_of_ble_eq_true rfl) wm_Model_87 dModel_lay_2 H (fun x1_ F1 G1 H => ?_)
  refine gw_if_eq (tgt := 22) CX.1 dModel_lay_5 (by decide) (fun c => ?_) (fun c => ?_)
  · replace H := H.1 c
    refine gw_ldc CX.1 wc_Model_85 dModel_lay_22 ?_
    exact gw_iret CX rfl rfl ⟨_, _, _, rfl, rfl, H⟩ (Nat.zero_le _) (Nat.zero_le _) dModel_lay_24
  · replace H := H.2 c
    refine gw_iload_n CX.1 2 rfl dModel_lay_8 rfl ?_
    refine cl_Model_isCue CX (Nat.le_of_ble_eq_true rfl) wm_Model_91 dModel_lay_9 H (fun x2_ F2 G2 H => ?_)
    refine gw_if_eq (tgt := 22) CX.1 dModel_lay_12 (by decide) (fun c => ?_) (fun c => ?_)
    · replace H := H.1 c
      refine gw_ldc CX.1 wc_Model_85 dModel_lay_22 ?_
      exact gw_iret CX rfl rfl ⟨_, _, _, rfl, rfl, H⟩ (Nat.zero_le _) (Nat.zero_le _) dModel_lay_24
    · replace H := H.2 c
      refine gw_iload_n CX.1 3 rfl dModel_lay_15 rfl ?_
      refine cl_Model_isSheet CX (Nat.le_of_ble_eq_true rfl) wm_Model_104 dModel_lay_16 H (fun x3_ F3 G3 H => ?_)
      refine gw_if_ne (tgt := 25) CX.1 dModel_lay_19 (by decide) (fun c => ?_) (fun c => ?_)
      · replace H := H.1 c
        refine gw_aload_n CX.1 0 rfl dModel_lay_25 rfl ?_
        refine gg_Model_52 CX.1 rfl dModel_lay_26 ?_
        refine gw_iload_n CX.1 3 rfl dModel_lay_29 rfl ?_
        obtain ⟨hin, H⟩ := H
        refine ga_53 CX.1 hin dModel_lay_30 ?_
        refine gw_if_ge (tgt := 37) CX.1 dModel_lay_31 (by decide) (fun c => ?_) (fun c => ?_)
        · replace H := H.1 c
          refine gw_aload_n CX.1 0 rfl dModel_lay_37 rfl ?_
          refine gg_Model_52 CX.1 rfl dModel_lay_38 ?_
          refine gw_iload_n CX.1 3 rfl dModel_lay_41 rfl ?_
          obtain ⟨hin, H⟩ := H
          refine ga_53 CX.1 hin dModel_lay_42 ?_
          refine gw_bipush (v := 30) CX.1 dModel_lay_43 (by decide) ?_
          refine gw_iload_n CX.1 2 rfl dModel_lay_45 rfl ?_
          refine gw_isub CX.1 dModel_lay_46 ?_
          refine gw_icmp_le (tgt := 53) CX.1 dModel_lay_47 (by decide) (fun c => ?_) (fun c => ?_)
          · replace H := H.1 c
            refine gw_iconst (v := 0) CX.1 dModel_lay_53 (by decide) ?_
            refine gw_istore CX.1 dModel_lay_54 (by decide) rfl ?_
            exact gw_sub [1, 2, 3, 4, 0] rfl (H X CX)
          · replace H := H.2 c
            refine gw_ldc CX.1 wc_Model_108 dModel_lay_50 ?_
            exact gw_iret CX rfl rfl ⟨_, _, _, rfl, rfl, H⟩ (Nat.zero_le _) (Nat.zero_le _) dModel_lay_52
        · replace H := H.2 c
          refine gw_ldc CX.1 wc_Model_107 dModel_lay_34 ?_
          exact gw_iret CX rfl rfl ⟨_, _, _, rfl, rfl, H⟩ (Nat.zero_le _) (Nat.zero_le _) dModel_lay_36
      · replace H := H.2 c
        refine gw_ldc CX.1 wc_Model_85 dModel_lay_22 ?_
        exact gw_iret CX rfl rfl ⟨_, _, _, rfl, rfl, H⟩ (Nat.zero_le _) (Nat.zero_le _) dModel_lay_24
theorem eModel_isSheet {D : va_G} {d : Nat} {Q : Int32 → (Nat → Nat → Int32) → (Nat → Int64) → Prop} {F : Nat → Nat → Int32} {G : Nat → Int64} {a0 : Int32} (H : AMi D d nModel_isIn [.int a0, .int 0, .int 1] F G (fun x1_ F1 G1 => narrow .boolean (.int x1_) = .int x1_ ∧ Q x1_ F1 G1)) : AMi D (d + 1) nModel_isSheet [.int a0] F G Q := by
  refine AM_intro (by decide) (Nat.le_of_ble_eq_true rfl) ?_
  intro X CX
  refine gw_iload_n CX.1 0 rfl dModel_isSheet_0 rfl ?_
  refine gw_iconst (v := 0) CX.1 dModel_isSheet_1 (by decide) ?_
  refine gw_iconst (v := 1) CX.1 dModel_isSheet_2 (by decide) ?_
  refine cl_Model_isIn CX (Nat.le_of_ble_eq_true rfl) wm_Model_78 dModel_isSheet_3 H (fun x1_ F1 G1 H => ?_)
  obtain ⟨hn, H⟩ := H
  exact gw_iret CX rfl hn ⟨_, _, _, rfl, rfl, H⟩ (Nat.zero_le _) (Nat.zero_le _) dModel_isSheet_6
theorem eModel_told {D : va_G} {d : Nat} {Q : Int32 → (Nat → Nat → Int32) → (Nat → Int64) → Prop} {F : Nat → Nat → Int32} {G : Nat → Int64} {a0 : Int32} {a1 : Int32} {a2 : Int32} (H : AMi D d nModel_isTrack [.ref 39, .int a0] F G (fun x1_ F1 G1 => ((x1_ = 0 → Q (-1000000001) F1 G1) ∧ (¬ (x1_ = 0) → AMi D d nModel_isCue [.int a1] F1 G1 (fun x2_ F2 G2 => ((x2_ = 0 → Q (-1000000001) F2 G2) ∧ (¬ (x2_ = 0) → AMi D d nModel_isIn [.int a2, .int 0, .int 2] F2 G2 (fun x3_ F3 G3 => ((¬ x3_ = 0 → ((¬ a2 = 0 → ((¬ a2 = 1 → vp_in a1 30 ∧ ((0 ≤ (F3 42 a1.toNatClampNeg) → vp_in a1 30 ∧ ((¬ (F3 42 a1.toNatClampNeg) = a0 → vp_in a1 30 ∧ ((¬ (F3 43 a1.toNatClampNeg) = a0 → Q (-1000000005) F3 G3) ∧ ((F3 43 a1.toNatClampNeg) = a0 → vp_in a1 30 ∧ Q (F3 42 a1.toNatClampNeg) F3 G3))) ∧ ((F3 42 a1.toNatClampNeg) = a0 → vp_in a1 30 ∧ Q (F3 43 a1.toNatClampNeg) F3 G3))) ∧ (¬ (0 ≤ (F3 42 a1.toNatClampNeg)) → Q (-1000000005) F3 G3))) ∧ (a2 = 1 → vp_in ((30 * a0) + a1) 240 ∧ Q (F3 41 ((30 * a0) + a1).toNatClampNeg) F3 G3))) ∧ (a2 = 0 → AMi D d nModel_is [.ref 39, .int a0, .int a1] F3 G3 (fun x4_ F4 G4 => ((x4_ = 0 → Q (-1000000005) F4 G4) ∧ (¬ (x4_ = 0) → vp_in ((30 * a0) + a1) 240 ∧ Q (F4 40 ((30 * a0) + a1).toNatClampNeg) F4 G4)))))) ∧ (x3_ = 0 → Q (-1000000001) F3 G3)))))))))) : AMi D (d + 1) nModel_told [.ref 39, .int a0, .int a1, .int a2] F G Q := by
  refine AM_intro (by decide) (Nat.le_of_ble_eq_true rfl) ?_
  intro X CX
  refine gw_aload_n CX.1 0 rfl dModel_told_0 rfl ?_
  refine gw_iload_n CX.1 1 rfl dModel_told_1 rfl ?_
  refine cl_Model_isTrack CX (Nat.le_of_ble_eq_true rfl) wm_Model_87 dModel_told_2 H (fun x1_ F1 G1 H => ?_)
  refine gw_if_eq (tgt := 24) CX.1 dModel_told_5 (by decide) (fun c => ?_) (fun c => ?_)
  · replace H := H.1 c
    refine gw_ldc CX.1 wc_Model_85 dModel_told_24 ?_
    exact gw_iret CX rfl rfl ⟨_, _, _, rfl, rfl, H⟩ (Nat.zero_le _) (Nat.zero_le _) dModel_told_26
  · replace H := H.2 c
    refine gw_iload_n CX.1 2 rfl dModel_told_8 rfl ?_
    refine cl_Model_isCue CX (Nat.le_of_ble_eq_true rfl) wm_Model_91 dModel_told_9 H (fun x2_ F2 G2 H => ?_)
    refine gw_if_eq (tgt := 24) CX.1 dModel_told_12 (by decide) (fun c => ?_) (fun c => ?_)
    · replace H := H.1 c
      refine gw_ldc CX.1 wc_Model_85 dModel_told_24 ?_
      exact gw_iret CX rfl rfl ⟨_, _, _, rfl, rfl, H⟩ (Nat.zero_le _) (Nat.zero_le _) dModel_told_26
    · replace H := H.2 c
      refine gw_iload_n CX.1 3 rfl dModel_told_15 rfl ?_
      refine gw_iconst (v := 0) CX.1 dModel_told_16 (by decide) ?_
      refine gw_iconst (v := 2) CX.1 dModel_told_17 (by decide) ?_
      refine cl_Model_isIn CX (Nat.le_of_ble_eq_true rfl) wm_Model_78 dModel_told_18 H (fun x3_ F3 G3 H => ?_)
      refine gw_if_ne (tgt := 27) CX.1 dModel_told_21 (by decide) (fun c => ?_) (fun c => ?_)
      · replace H := H.1 c
        refine gw_iload_n CX.1 3 rfl dModel_told_27 rfl ?_
        refine gw_if_ne (tgt := 57) CX.1 dModel_told_28 (by decide) (fun c => ?_) (fun c => ?_)
        · replace H := H.1 c
          refine gw_iload_n CX.1 3 rfl dModel_told_57 rfl ?_
          refine gw_iconst (v := 1) CX.1 dModel_told_58 (by decide) ?_
          refine gw_icmp_ne (tgt := 74) CX.1 dModel_told_59 (by decide) (fun c => ?_) (fun c => ?_)
          · replace H := H.1 c
            refine gw_aload_n CX.1 0 rfl dModel_told_74 rfl ?_
            refine gg_Model_19 CX.1 rfl dModel_told_75 ?_
            refine gw_iload_n CX.1 2 rfl dModel_told_78 rfl ?_
            obtain ⟨hin, H⟩ := H
            refine ga_42 CX.1 hin dModel_told_79 ?_
            refine gw_if_ge (tgt := 86) CX.1 dModel_told_80 (by decide) (fun c => ?_) (fun c => ?_)
            · replace H := H.1 c
              refine gw_aload_n CX.1 0 rfl dModel_told_86 rfl ?_
              refine gg_Model_19 CX.1 rfl dModel_told_87 ?_
              refine gw_iload_n CX.1 2 rfl dModel_told_90 rfl ?_
              obtain ⟨hin, H⟩ := H
              refine ga_42 CX.1 hin dModel_told_91 ?_
              refine gw_iload_n CX.1 1 rfl dModel_told_92 rfl ?_
              refine gw_icmp_ne (tgt := 105) CX.1 dModel_told_93 (by decide) (fun c => ?_) (fun c => ?_)
              · replace H := H.1 c
                refine gw_aload_n CX.1 0 rfl dModel_told_105 rfl ?_
                refine gg_Model_22 CX.1 rfl dModel_told_106 ?_
                refine gw_iload_n CX.1 2 rfl dModel_told_109 rfl ?_
                obtain ⟨hin, H⟩ := H
                refine ga_43 CX.1 hin dModel_told_110 ?_
                refine gw_iload_n CX.1 1 rfl dModel_told_111 rfl ?_
                refine gw_icmp_ne (tgt := 124) CX.1 dModel_told_112 (by decide) (fun c => ?_) (fun c => ?_)
                · replace H := H.1 c
                  refine gw_ldc CX.1 wc_Model_94 dModel_told_124 ?_
                  exact gw_iret CX rfl rfl ⟨_, _, _, rfl, rfl, H⟩ (Nat.zero_le _) (Nat.zero_le _) dModel_told_126
                · replace H := H.2 c
                  refine gw_aload_n CX.1 0 rfl dModel_told_115 rfl ?_
                  refine gg_Model_19 CX.1 rfl dModel_told_116 ?_
                  refine gw_iload_n CX.1 2 rfl dModel_told_119 rfl ?_
                  obtain ⟨hin, H⟩ := H
                  refine ga_42 CX.1 hin dModel_told_120 ?_
                  refine gw_goto (tgt := 126) CX.1 dModel_told_121 (by decide) ?_
                  exact gw_iret CX rfl rfl ⟨_, _, _, rfl, rfl, H⟩ (Nat.zero_le _) (Nat.zero_le _) dModel_told_126
              · replace H := H.2 c
                refine gw_aload_n CX.1 0 rfl dModel_told_96 rfl ?_
                refine gg_Model_22 CX.1 rfl dModel_told_97 ?_
                refine gw_iload_n CX.1 2 rfl dModel_told_100 rfl ?_
                obtain ⟨hin, H⟩ := H
                refine ga_43 CX.1 hin dModel_told_101 ?_
                refine gw_goto (tgt := 126) CX.1 dModel_told_102 (by decide) ?_
                exact gw_iret CX rfl rfl ⟨_, _, _, rfl, rfl, H⟩ (Nat.zero_le _) (Nat.zero_le _) dModel_told_126
            · replace H := H.2 c
              refine gw_ldc CX.1 wc_Model_94 dModel_told_83 ?_
              exact gw_iret CX rfl rfl ⟨_, _, _, rfl, rfl, H⟩ (Nat.zero_le _) (Nat.zero_le _) dModel_told_85
          · replace H := H.2 c
            refine gw_aload_n CX.1 0 rfl dModel_told_62 rfl ?_
            refine gg_Model_16 CX.1 rfl dModel_told_63 ?_
            refine gw_bipush (v := 30) CX.1 dModel_told_66 (by decide) ?_
            refine gw_iload_n CX.1 1 rfl dModel_told_68 rfl ?_
            refine gw_imul CX.1 dModel_told_69 ?_
            refine gw_iload_n CX.1 2 rfl dModel_told_70 rfl ?_
            refine gw_iadd CX.1 dModel_told_71 ?_
            obtain ⟨hin, H⟩ := H
            refine ga_41 CX.1 hin dModel_told_72 ?_
            exact gw_iret CX rfl rfl ⟨_, _, _, rfl, rfl, H⟩ (Nat.zero_le _) (Nat.zero_le _) dModel_told_73
        · replace H := H.2 c
          refine gw_aload_n CX.1 0 rfl dModel_told_31 rfl ?_
          refine gw_iload_n CX.1 1 rfl dModel_told_32 rfl ?_
          refine gw_iload_n CX.1 2 rfl dModel_told_33 rfl ?_
          refine cl_Model_is CX (Nat.le_of_ble_eq_true rfl) wm_Model_99 dModel_told_34 H (fun x4_ F4 G4 H => ?_)
          refine gw_if_eq (tgt := 54) CX.1 dModel_told_37 (by decide) (fun c => ?_) (fun c => ?_)
          · replace H := H.1 c
            refine gw_ldc CX.1 wc_Model_94 dModel_told_54 ?_
            exact gw_iret CX rfl rfl ⟨_, _, _, rfl, rfl, H⟩ (Nat.zero_le _) (Nat.zero_le _) dModel_told_56
          · replace H := H.2 c
            refine gw_aload_n CX.1 0 rfl dModel_told_40 rfl ?_
            refine gg_Model_13 CX.1 rfl dModel_told_41 ?_
            refine gw_bipush (v := 30) CX.1 dModel_told_44 (by decide) ?_
            refine gw_iload_n CX.1 1 rfl dModel_told_46 rfl ?_
            refine gw_imul CX.1 dModel_told_47 ?_
            refine gw_iload_n CX.1 2 rfl dModel_told_48 rfl ?_
            refine gw_iadd CX.1 dModel_told_49 ?_
            obtain ⟨hin, H⟩ := H
            refine ga_40 CX.1 hin dModel_told_50 ?_
            refine gw_goto (tgt := 56) CX.1 dModel_told_51 (by decide) ?_
            exact gw_iret CX rfl rfl ⟨_, _, _, rfl, rfl, H⟩ (Nat.zero_le _) (Nat.zero_le _) dModel_told_56
      · replace H := H.2 c
        refine gw_ldc CX.1 wc_Model_85 dModel_told_24 ?_
        exact gw_iret CX rfl rfl ⟨_, _, _, rfl, rfl, H⟩ (Nat.zero_le _) (Nat.zero_le _) dModel_told_26
theorem eModel_person {D : va_G} {d : Nat} {Q : Int32 → (Nat → Nat → Int32) → (Nat → Int64) → Prop} {F : Nat → Nat → Int32} {G : Nat → Int64} {a0 : Int32} {a1 : Int32} (H : AMi D d nModel_isIn [.int a0, .int 0, .int 3] F G (fun x1_ F1 G1 => ((x1_ = 0 → Q (-1000000001) F1 G1) ∧ (¬ (x1_ = 0) → AMi D d nModel_isIn [.int a1, .int 1, .int 9] F1 G1 (fun x2_ F2 G2 => ((¬ x2_ = 0 → ((¬ (F2 111 0) = 10 → vp_in (F2 111 0) 10 ∧ vp_in ((up F2 44 ((F2 111 0).toNatClampNeg) a0) 111 0) 10 ∧ vp_in ((up (up F2 44 ((F2 111 0).toNatClampNeg) a0) 45 (((up F2 44 ((F2 111 0).toNatClampNeg) a0) 111 0).toNatClampNeg) a1) 111 0) 10 ∧ vp_in ((up (up (up F2 44 ((F2 111 0).toNatClampNeg) a0) 45 (((up F2 44 ((F2 111 0).toNatClampNeg) a0) 111 0).toNatClampNeg) a1) 46 (((up (up F2 44 ((F2 111 0).toNatClampNeg) a0) 45 (((up F2 44 ((F2 111 0).toNatClampNeg) a0) 111 0).toNatClampNeg) a1) 111 0).toNatClampNeg) (-1)) 111 0) 10 ∧ Q (((upS (up (up (up (up F2 44 ((F2 111 0).toNatClampNeg) a0) 45 (((up F2 44 ((F2 111 0).toNatClampNeg) a0) 111 0).toNatClampNeg) a1) 46 (((up (up F2 44 ((F2 111 0).toNatClampNeg) a0) 45 (((up F2 44 ((F2 111 0).toNatClampNeg) a0) 111 0).toNatClampNeg) a1) 111 0).toNatClampNeg) (-1)) 50 (((up (up (up F2 44 ((F2 111 0).toNatClampNeg) a0) 45 (((up F2 44 ((F2 111 0).toNatClampNeg) a0) 111 0).toNatClampNeg) a1) 46 (((up (up F2 44 ((F2 111 0).toNatClampNeg) a0) 45 (((up F2 44 ((F2 111 0).toNatClampNeg) a0) 111 0).toNatClampNeg) a1) 111 0).toNatClampNeg) (-1)) 111 0).toNatClampNeg) 30) 111 (((up (up (up (up F2 44 ((F2 111 0).toNatClampNeg) a0) 45 (((up F2 44 ((F2 111 0).toNatClampNeg) a0) 111 0).toNatClampNeg) a1) 46 (((up (up F2 44 ((F2 111 0).toNatClampNeg) a0) 45 (((up F2 44 ((F2 111 0).toNatClampNeg) a0) 111 0).toNatClampNeg) a1) 111 0).toNatClampNeg) (-1)) 50 (((up (up (up F2 44 ((F2 111 0).toNatClampNeg) a0) 45 (((up F2 44 ((F2 111 0).toNatClampNeg) a0) 111 0).toNatClampNeg) a1) 46 (((up (up F2 44 ((F2 111 0).toNatClampNeg) a0) 45 (((up F2 44 ((F2 111 0).toNatClampNeg) a0) 111 0).toNatClampNeg) a1) 111 0).toNatClampNeg) (-1)) 111 0).toNatClampNeg) 30) 111 0) + 1)) 111 0) - 1) (upS (up (up (up (up F2 44 ((F2 111 0).toNatClampNeg) a0) 45 (((up F2 44 ((F2 111 0).toNatClampNeg) a0) 111 0).toNatClampNeg) a1) 46 (((up (up F2 44 ((F2 111 0).toNatClampNeg) a0) 45 (((up F2 44 ((F2 111 0).toNatClampNeg) a0) 111 0).toNatClampNeg) a1) 111 0).toNatClampNeg) (-1)) 50 (((up (up (up F2 44 ((F2 111 0).toNatClampNeg) a0) 45 (((up F2 44 ((F2 111 0).toNatClampNeg) a0) 111 0).toNatClampNeg) a1) 46 (((up (up F2 44 ((F2 111 0).toNatClampNeg) a0) 45 (((up F2 44 ((F2 111 0).toNatClampNeg) a0) 111 0).toNatClampNeg) a1) 111 0).toNatClampNeg) (-1)) 111 0).toNatClampNeg) 30) 111 (((up (up (up (up F2 44 ((F2 111 0).toNatClampNeg) a0) 45 (((up F2 44 ((F2 111 0).toNatClampNeg) a0) 111 0).toNatClampNeg) a1) 46 (((up (up F2 44 ((F2 111 0).toNatClampNeg) a0) 45 (((up F2 44 ((F2 111 0).toNatClampNeg) a0) 111 0).toNatClampNeg) a1) 111 0).toNatClampNeg) (-1)) 50 (((up (up (up F2 44 ((F2 111 0).toNatClampNeg) a0) 45 (((up F2 44 ((F2 111 0).toNatClampNeg) a0) 111 0).toNatClampNeg) a1) 46 (((up (up F2 44 ((F2 111 0).toNatClampNeg) a0) 45 (((up F2 44 ((F2 111 0).toNatClampNeg) a0) 111 0).toNatClampNeg) a1) 111 0).toNatClampNeg) (-1)) 111 0).toNatClampNeg) 30) 111 0) + 1)) G2) ∧ ((F2 111 0) = 10 → Q (-1000000003) F2 G2))) ∧ (x2_ = 0 → Q (-1000000001) F2 G2))))))) : AMi D (d + 1) nModel_person [.ref 39, .int a0, .int a1] F G Q := by
  refine AM_intro (by decide) (Nat.le_of_ble_eq_true rfl) ?_
  intro X CX
  refine gw_iload_n CX.1 1 rfl dModel_person_0 rfl ?_
  refine gw_iconst (v := 0) CX.1 dModel_person_1 (by decide) ?_
  refine gw_iconst (v := 3) CX.1 dModel_person_2 (by decide) ?_
  refine cl_Model_isIn CX (Nat.le_of_ble_eq_true rfl) wm_Model_78 dModel_person_3 H (fun x1_ F1 G1 H => ?_)
  refine gw_if_eq (tgt := 19) CX.1 dModel_person_6 (by decide) (fun c => ?_) (fun c => ?_)
  · replace H := H.1 c
    refine gw_ldc CX.1 wc_Model_85 dModel_person_19 ?_
    exact gw_iret CX rfl rfl ⟨_, _, _, rfl, rfl, H⟩ (Nat.zero_le _) (Nat.zero_le _) dModel_person_21
  · replace H := H.2 c
    refine gw_iload_n CX.1 2 rfl dModel_person_9 rfl ?_
    refine gw_iconst (v := 1) CX.1 dModel_person_10 (by decide) ?_
    refine gw_bipush (v := 9) CX.1 dModel_person_11 (by decide) ?_
    refine cl_Model_isIn CX (Nat.le_of_ble_eq_true rfl) wm_Model_78 dModel_person_13 H (fun x2_ F2 G2 H => ?_)
    refine gw_if_ne (tgt := 22) CX.1 dModel_person_16 (by decide) (fun c => ?_) (fun c => ?_)
    · replace H := H.1 c
      refine gw_aload_n CX.1 0 rfl dModel_person_22 rfl ?_
      refine gg_Model_82 CX.1 rfl dModel_person_23 ?_
      refine gw_bipush (v := 10) CX.1 dModel_person_26 (by decide) ?_
      refine gw_icmp_ne (tgt := 34) CX.1 dModel_person_28 (by decide) (fun c => ?_) (fun c => ?_)
      · replace H := H.1 c
        refine gw_aload_n CX.1 0 rfl dModel_person_34 rfl ?_
        refine gg_Model_25 CX.1 rfl dModel_person_35 ?_
        refine gw_aload_n CX.1 0 rfl dModel_person_38 rfl ?_
        refine gg_Model_82 CX.1 rfl dModel_person_39 ?_
        refine gw_iload_n CX.1 1 rfl dModel_person_42 rfl ?_
        obtain ⟨hin, H⟩ := H
        refine gs_44 CX.1 hin dModel_person_43 ?_
        refine gw_aload_n CX.1 0 rfl dModel_person_44 rfl ?_
        refine gg_Model_28 CX.1 rfl dModel_person_45 ?_
        refine gw_aload_n CX.1 0 rfl dModel_person_48 rfl ?_
        refine gg_Model_82 CX.1 rfl dModel_person_49 ?_
        refine gw_iload_n CX.1 2 rfl dModel_person_52 rfl ?_
        obtain ⟨hin, H⟩ := H
        refine gs_45 CX.1 hin dModel_person_53 ?_
        refine gw_aload_n CX.1 0 rfl dModel_person_54 rfl ?_
        refine gg_Model_31 CX.1 rfl dModel_person_55 ?_
        refine gw_aload_n CX.1 0 rfl dModel_person_58 rfl ?_
        refine gg_Model_82 CX.1 rfl dModel_person_59 ?_
        refine gw_iconst (v := (-1)) CX.1 dModel_person_62 (by decide) ?_
        obtain ⟨hin, H⟩ := H
        refine gs_46 CX.1 hin dModel_person_63 ?_
        refine gw_aload_n CX.1 0 rfl dModel_person_64 rfl ?_
        refine gg_Model_43 CX.1 rfl dModel_person_65 ?_
        refine gw_aload_n CX.1 0 rfl dModel_person_68 rfl ?_
        refine gg_Model_82 CX.1 rfl dModel_person_69 ?_
        refine gw_bipush (v := 30) CX.1 dModel_person_72 (by decide) ?_
        obtain ⟨hin, H⟩ := H
        refine gs_50 CX.1 hin dModel_person_74 ?_
        refine gw_aload_n CX.1 0 rfl dModel_person_75 rfl ?_
        refine gw_dup CX.1 dModel_person_76 rfl ?_
        refine gg_Model_82 CX.1 rfl dModel_person_77 ?_
        refine gw_iconst (v := 1) CX.1 dModel_person_80 (by decide) ?_
        refine gw_iadd CX.1 dModel_person_81 ?_
        refine gp_Model_82 CX.1 rfl dModel_person_82 ?_
        refine gw_aload_n CX.1 0 rfl dModel_person_85 rfl ?_
        refine gg_Model_82 CX.1 rfl dModel_person_86 ?_
        refine gw_iconst (v := 1) CX.1 dModel_person_89 (by decide) ?_
        refine gw_isub CX.1 dModel_person_90 ?_
        exact gw_iret CX rfl rfl ⟨_, _, _, rfl, rfl, H⟩ (Nat.zero_le _) (Nat.zero_le _) dModel_person_91
      · replace H := H.2 c
        refine gw_ldc CX.1 wc_Model_86 dModel_person_31 ?_
        exact gw_iret CX rfl rfl ⟨_, _, _, rfl, rfl, H⟩ (Nat.zero_le _) (Nat.zero_le _) dModel_person_33
    · replace H := H.2 c
      refine gw_ldc CX.1 wc_Model_85 dModel_person_19 ?_
      exact gw_iret CX rfl rfl ⟨_, _, _, rfl, rfl, H⟩ (Nat.zero_le _) (Nat.zero_le _) dModel_person_21
theorem eModel_isOf {D : va_G} {d : Nat} {Q : Int32 → (Nat → Nat → Int32) → (Nat → Int64) → Prop} {F : Nat → Nat → Int32} {G : Nat → Int64} {a0 : Int32} {a1 : Int32} (H : AMi D d nModel_isPerson [.ref 39, .int a0] F G (fun x1_ F1 G1 => ((x1_ = 0 → Q (-1000000001) F1 G1) ∧ (¬ (x1_ = 0) → AMi D d nModel_isIn [.int a1, .int 0, .int 3] F1 G1 (fun x2_ F2 G2 => ((¬ x2_ = 0 → ((a1 = 0 → Q 1 F2 G2) ∧ (¬ (a1 = 0) → vp_in a0 10 ∧ (((F2 44 a0.toNatClampNeg) = a1 → Q 1 F2 G2) ∧ (¬ ((F2 44 a0.toNatClampNeg) = a1) → ((¬ a1 = 2 → Q 0 F2 G2) ∧ (a1 = 2 → AMi D d nModel_isSwing [.ref 39, .int a0] F2 G2 (fun x3_ F3 G3 => ((x3_ = 0 → Q 0 F3 G3) ∧ (¬ (x3_ = 0) → Q 1 F3 G3)))))))))) ∧ (x2_ = 0 → Q (-1000000001) F2 G2))))))) : AMi D (d + 1) nModel_isOf [.ref 39, .int a0, .int a1] F G Q := by
  refine AM_intro (by decide) (Nat.le_of_ble_eq_true rfl) ?_
  intro X CX
  refine gw_aload_n CX.1 0 rfl dModel_isOf_0 rfl ?_
  refine gw_iload_n CX.1 1 rfl dModel_isOf_1 rfl ?_
  refine cl_Model_isPerson CX (Nat.le_of_ble_eq_true rfl) wm_Model_109 dModel_isOf_2 H (fun x1_ F1 G1 H => ?_)
  refine gw_if_eq (tgt := 17) CX.1 dModel_isOf_5 (by decide) (fun c => ?_) (fun c => ?_)
  · replace H := H.1 c
    refine gw_ldc CX.1 wc_Model_85 dModel_isOf_17 ?_
    exact gw_iret CX rfl rfl ⟨_, _, _, rfl, rfl, H⟩ (Nat.zero_le _) (Nat.zero_le _) dModel_isOf_19
  · replace H := H.2 c
    refine gw_iload_n CX.1 2 rfl dModel_isOf_8 rfl ?_
    refine gw_iconst (v := 0) CX.1 dModel_isOf_9 (by decide) ?_
    refine gw_iconst (v := 3) CX.1 dModel_isOf_10 (by decide) ?_
    refine cl_Model_isIn CX (Nat.le_of_ble_eq_true rfl) wm_Model_78 dModel_isOf_11 H (fun x2_ F2 G2 H => ?_)
    refine gw_if_ne (tgt := 20) CX.1 dModel_isOf_14 (by decide) (fun c => ?_) (fun c => ?_)
    · replace H := H.1 c
      refine gw_iload_n CX.1 2 rfl dModel_isOf_20 rfl ?_
      refine gw_if_eq (tgt := 47) CX.1 dModel_isOf_21 (by decide) (fun c => ?_) (fun c => ?_)
      · replace H := H.1 c
        refine gw_iconst (v := 1) CX.1 dModel_isOf_47 (by decide) ?_
        refine gw_goto (tgt := 52) CX.1 dModel_isOf_48 (by decide) ?_
        exact gw_iret CX rfl rfl ⟨_, _, _, rfl, rfl, H⟩ (Nat.zero_le _) (Nat.zero_le _) dModel_isOf_52
      · replace H := H.2 c
        refine gw_aload_n CX.1 0 rfl dModel_isOf_24 rfl ?_
        refine gg_Model_25 CX.1 rfl dModel_isOf_25 ?_
        refine gw_iload_n CX.1 1 rfl dModel_isOf_28 rfl ?_
        obtain ⟨hin, H⟩ := H
        refine ga_44 CX.1 hin dModel_isOf_29 ?_
        refine gw_iload_n CX.1 2 rfl dModel_isOf_30 rfl ?_
        refine gw_icmp_eq (tgt := 47) CX.1 dModel_isOf_31 (by decide) (fun c => ?_) (fun c => ?_)
        · replace H := H.1 c
          refine gw_iconst (v := 1) CX.1 dModel_isOf_47 (by decide) ?_
          refine gw_goto (tgt := 52) CX.1 dModel_isOf_48 (by decide) ?_
          exact gw_iret CX rfl rfl ⟨_, _, _, rfl, rfl, H⟩ (Nat.zero_le _) (Nat.zero_le _) dModel_isOf_52
        · replace H := H.2 c
          refine gw_iload_n CX.1 2 rfl dModel_isOf_34 rfl ?_
          refine gw_iconst (v := 2) CX.1 dModel_isOf_35 (by decide) ?_
          refine gw_icmp_ne (tgt := 51) CX.1 dModel_isOf_36 (by decide) (fun c => ?_) (fun c => ?_)
          · replace H := H.1 c
            refine gw_iconst (v := 0) CX.1 dModel_isOf_51 (by decide) ?_
            exact gw_iret CX rfl rfl ⟨_, _, _, rfl, rfl, H⟩ (Nat.zero_le _) (Nat.zero_le _) dModel_isOf_52
          · replace H := H.2 c
            refine gw_aload_n CX.1 0 rfl dModel_isOf_39 rfl ?_
            refine gw_iload_n CX.1 1 rfl dModel_isOf_40 rfl ?_
            refine cl_Model_isSwing CX (Nat.le_of_ble_eq_true rfl) wm_Model_112 dModel_isOf_41 H (fun x3_ F3 G3 H => ?_)
            refine gw_if_eq (tgt := 51) CX.1 dModel_isOf_44 (by decide) (fun c => ?_) (fun c => ?_)
            · replace H := H.1 c
              refine gw_iconst (v := 0) CX.1 dModel_isOf_51 (by decide) ?_
              exact gw_iret CX rfl rfl ⟨_, _, _, rfl, rfl, H⟩ (Nat.zero_le _) (Nat.zero_le _) dModel_isOf_52
            · replace H := H.2 c
              refine gw_iconst (v := 1) CX.1 dModel_isOf_47 (by decide) ?_
              refine gw_goto (tgt := 52) CX.1 dModel_isOf_48 (by decide) ?_
              exact gw_iret CX rfl rfl ⟨_, _, _, rfl, rfl, H⟩ (Nat.zero_le _) (Nat.zero_le _) dModel_isOf_52
    · replace H := H.2 c
      refine gw_ldc CX.1 wc_Model_85 dModel_isOf_17 ?_
      exact gw_iret CX rfl rfl ⟨_, _, _, rfl, rfl, H⟩ (Nat.zero_le _) (Nat.zero_le _) dModel_isOf_19
theorem eModel_isPerson {D : va_G} {d : Nat} {Q : Int32 → (Nat → Nat → Int32) → (Nat → Int64) → Prop} {F : Nat → Nat → Int32} {G : Nat → Int64} {a0 : Int32} (H : AMi D d nModel_isIn [.int a0, .int 0, .int ((F 111 0) - 1)] F G (fun x1_ F1 G1 => narrow .boolean (.int x1_) = .int x1_ ∧ Q x1_ F1 G1)) : AMi D (d + 1) nModel_isPerson [.ref 39, .int a0] F G Q := by
  refine AM_intro (by decide) (Nat.le_of_ble_eq_true rfl) ?_
  intro X CX
  refine gw_iload_n CX.1 1 rfl dModel_isPerson_0 rfl ?_
  refine gw_iconst (v := 0) CX.1 dModel_isPerson_1 (by decide) ?_
  refine gw_aload_n CX.1 0 rfl dModel_isPerson_2 rfl ?_
  refine gg_Model_82 CX.1 rfl dModel_isPerson_3 ?_
  refine gw_iconst (v := 1) CX.1 dModel_isPerson_6 (by decide) ?_
  refine gw_isub CX.1 dModel_isPerson_7 ?_
  refine cl_Model_isIn CX (Nat.le_of_ble_eq_true rfl) wm_Model_78 dModel_isPerson_8 H (fun x1_ F1 G1 H => ?_)
  obtain ⟨hn, H⟩ := H
  exact gw_iret CX rfl hn ⟨_, _, _, rfl, rfl, H⟩ (Nat.zero_le _) (Nat.zero_le _) dModel_isPerson_11
theorem eModel_isSwing {D : va_G} {d : Nat} {Q : Int32 → (Nat → Nat → Int32) → (Nat → Int64) → Prop} {F : Nat → Nat → Int32} {G : Nat → Int64} {a0 : Int32} (H : vp_in a0 10 ∧ (((F 44 a0.toNatClampNeg) = 2 → Q 1 F G) ∧ (¬ ((F 44 a0.toNatClampNeg) = 2) → vp_in a0 10 ∧ ((¬ (F 44 a0.toNatClampNeg) = 3 → Q 0 F G) ∧ ((F 44 a0.toNatClampNeg) = 3 → Q 1 F G))))) : AMi D (d + 1) nModel_isSwing [.ref 39, .int a0] F G Q := by
  refine AM_intro (by decide) (Nat.le_of_ble_eq_true rfl) ?_
  intro X CX
  refine gw_aload_n CX.1 0 rfl dModel_isSwing_0 rfl ?_
  refine gg_Model_25 CX.1 rfl dModel_isSwing_1 ?_
  refine gw_iload_n CX.1 1 rfl dModel_isSwing_4 rfl ?_
  obtain ⟨hin, H⟩ := H
  refine ga_44 CX.1 hin dModel_isSwing_5 ?_
  refine gw_iconst (v := 2) CX.1 dModel_isSwing_6 (by decide) ?_
  refine gw_icmp_eq (tgt := 20) CX.1 dModel_isSwing_7 (by decide) (fun c => ?_) (fun c => ?_)
  · replace H := H.1 c
    refine gw_iconst (v := 1) CX.1 dModel_isSwing_20 (by decide) ?_
    refine gw_goto (tgt := 25) CX.1 dModel_isSwing_21 (by decide) ?_
    exact gw_iret CX rfl (by decide) ⟨_, _, _, rfl, rfl, H⟩ (Nat.zero_le _) (Nat.zero_le _) dModel_isSwing_25
  · replace H := H.2 c
    refine gw_aload_n CX.1 0 rfl dModel_isSwing_10 rfl ?_
    refine gg_Model_25 CX.1 rfl dModel_isSwing_11 ?_
    refine gw_iload_n CX.1 1 rfl dModel_isSwing_14 rfl ?_
    obtain ⟨hin, H⟩ := H
    refine ga_44 CX.1 hin dModel_isSwing_15 ?_
    refine gw_iconst (v := 3) CX.1 dModel_isSwing_16 (by decide) ?_
    refine gw_icmp_ne (tgt := 24) CX.1 dModel_isSwing_17 (by decide) (fun c => ?_) (fun c => ?_)
    · replace H := H.1 c
      refine gw_iconst (v := 0) CX.1 dModel_isSwing_24 (by decide) ?_
      exact gw_iret CX rfl (by decide) ⟨_, _, _, rfl, rfl, H⟩ (Nat.zero_le _) (Nat.zero_le _) dModel_isSwing_25
    · replace H := H.2 c
      refine gw_iconst (v := 1) CX.1 dModel_isSwing_20 (by decide) ?_
      refine gw_goto (tgt := 25) CX.1 dModel_isSwing_21 (by decide) ?_
      exact gw_iret CX rfl (by decide) ⟨_, _, _, rfl, rfl, H⟩ (Nat.zero_le _) (Nat.zero_le _) dModel_isSwing_25
theorem bModel_own_25 {D : va_G} {d : Nat} {Q : Int32 → (Nat → Nat → Int32) → (Nat → Int64) → Prop} {F : Nat → Nat → Int32} {G : Nat → Int64} {x1 : Int32} {x2 : Int32} (H : ((x2 = (-1000000005) → AWi D (d + 1) nModel_own 51 [(0, .ref 39), (1, .int x1), (2, .int x2)] [] F G Q) ∧ (¬ (x2 = (-1000000005)) → AMi D d nModel_owner [.ref 39, .int x2] F G (fun x1_ F1 G1 => ((x1_ < 0 → AWi D (d + 1) nModel_own 51 [(0, .ref 39), (1, .int x1), (2, .int x2)] [] F1 G1 Q) ∧ (¬ (x1_ < 0) → AMi D d nModel_owner [.ref 39, .int x2] F1 G1 (fun x2_ F2 G2 => ((x2_ = x1 → AWi D (d + 1) nModel_own 51 [(0, .ref 39), (1, .int x1), (2, .int x2)] [] F2 G2 Q) ∧ (¬ (x2_ = x1) → Q (-1000000002) F2 G2))))))))) : AWi D (d + 1) nModel_own 25 [(0, .ref 39), (1, .int x1), (2, .int x2)] [] F G Q := by
  intro X CX
  refine gw_iload_n CX.1 2 rfl dModel_own_25 rfl ?_
  refine gw_ldc CX.1 wc_Model_94 dModel_own_26 ?_
  refine gw_icmp_eq (tgt := 51) CX.1 dModel_own_28 (by decide) (fun c => ?_) (fun c => ?_)
  · replace H := H.1 c
    exact H X CX
  · replace H := H.2 c
    refine gw_aload_n CX.1 0 rfl dModel_own_31 rfl ?_
    refine gw_iload_n CX.1 2 rfl dModel_own_32 rfl ?_
    refine cl_Model_owner CX (Nat.le_of_ble_eq_true rfl) wm_Model_115 dModel_own_33 H (fun x1_ F1 G1 H => ?_)
    refine gw_if_lt (tgt := 51) CX.1 dModel_own_36 (by decide) (fun c => ?_) (fun c => ?_)
    · replace H := H.1 c
      exact H X CX
    · replace H := H.2 c
      refine gw_aload_n CX.1 0 rfl dModel_own_39 rfl ?_
      refine gw_iload_n CX.1 2 rfl dModel_own_40 rfl ?_
      refine cl_Model_owner CX (Nat.le_of_ble_eq_true rfl) wm_Model_115 dModel_own_41 H (fun x2_ F2 G2 H => ?_)
      refine gw_iload_n CX.1 1 rfl dModel_own_44 rfl ?_
      refine gw_icmp_eq (tgt := 51) CX.1 dModel_own_45 (by decide) (fun c => ?_) (fun c => ?_)
      · replace H := H.1 c
        exact H X CX
      · replace H := H.2 c
        refine gw_ldc CX.1 wc_Model_103 dModel_own_48 ?_
        exact gw_iret CX rfl rfl ⟨_, _, _, rfl, rfl, H⟩ (Nat.zero_le _) (Nat.zero_le _) dModel_own_50
theorem bModel_own_51 {D : va_G} {d : Nat} {Q : Int32 → (Nat → Nat → Int32) → (Nat → Int64) → Prop} {F : Nat → Nat → Int32} {G : Nat → Int64} {x1 : Int32} {x2 : Int32} (H : vp_in x1 10 ∧ ((¬ x2 = (-1000000005) → AWi D (d + 1) nModel_own 74 [(0, .ref 39), (1, .int x1), (2, .int x2), (3, .int (F 46 x1.toNatClampNeg))] [.int x2, .int x1, .ref 47] F G Q) ∧ (x2 = (-1000000005) → AWi D (d + 1) nModel_own 74 [(0, .ref 39), (1, .int x1), (2, .int x2), (3, .int (F 46 x1.toNatClampNeg))] [.int (-1), .int x1, .ref 47] F G Q))) : AWi D (d + 1) nModel_own 51 [(0, .ref 39), (1, .int x1), (2, .int x2)] [] F G Q := by
  intro X CX
  refine gw_aload_n CX.1 0 rfl dModel_own_51 rfl ?_
  refine gg_Model_31 CX.1 rfl dModel_own_52 ?_
  refine gw_iload_n CX.1 1 rfl dModel_own_55 rfl ?_
  obtain ⟨hin, H⟩ := H
  refine ga_46 CX.1 hin dModel_own_56 ?_
  refine gw_istore_n CX.1 dModel_own_57 rfl (by decide) rfl ?_
  refine gw_aload_n CX.1 1 rfl dModel_own_58 rfl ?_
  refine gg_Model_31 CX.1 rfl dModel_own_59 ?_
  refine gw_iload_n CX.1 2 rfl dModel_own_62 rfl ?_
  refine gw_iload_n CX.1 3 rfl dModel_own_63 rfl ?_
  refine gw_ldc CX.1 wc_Model_94 dModel_own_64 ?_
  refine gw_icmp_ne (tgt := 73) CX.1 dModel_own_66 (by decide) (fun c => ?_) (fun c => ?_)
  · replace H := H.1 c
    refine gw_iload_n CX.1 3 rfl dModel_own_73 rfl ?_
    exact gw_sub [1, 2, 3, 0] rfl (H X CX)
  · replace H := H.2 c
    refine gw_iconst (v := (-1)) CX.1 dModel_own_69 (by decide) ?_
    refine gw_goto (tgt := 74) CX.1 dModel_own_70 (by decide) ?_
    exact gw_sub [1, 2, 3, 0] rfl (H X CX)
theorem bModel_own_74 {D : va_G} {d : Nat} {Q : Int32 → (Nat → Nat → Int32) → (Nat → Int64) → Prop} {F : Nat → Nat → Int32} {G : Nat → Int64} {x1 : Int32} {x2 : Int32} {x3 : Int32} {s0 : Int32} {s1 : Int32} (H : vp_in s1 10 ∧ ((0 ≤ x3 → Q x3 (up F 46 (s1.toNatClampNeg) s0) G) ∧ (¬ (0 ≤ x3) → Q (-1000000005) (up F 46 (s1.toNatClampNeg) s0) G))) : AWi D (d + 1) nModel_own 74 [(0, .ref 39), (1, .int x1), (2, .int x2), (3, .int x3)] [.int s0, .int s1, .ref 47] F G Q := by
  intro X CX
  obtain ⟨hin, H⟩ := H
  refine gs_46 CX.1 hin dModel_own_74 ?_
  refine gw_iload_n CX.1 3 rfl dModel_own_75 rfl ?_
  refine gw_if_ge (tgt := 84) CX.1 dModel_own_76 (by decide) (fun c => ?_) (fun c => ?_)
  · replace H := H.1 c
    refine gw_iload_n CX.1 3 rfl dModel_own_84 rfl ?_
    exact gw_iret CX rfl rfl ⟨_, _, _, rfl, rfl, H⟩ (Nat.zero_le _) (Nat.zero_le _) dModel_own_85
  · replace H := H.2 c
    refine gw_ldc CX.1 wc_Model_94 dModel_own_79 ?_
    refine gw_goto (tgt := 85) CX.1 dModel_own_81 (by decide) ?_
    exact gw_iret CX rfl rfl ⟨_, _, _, rfl, rfl, H⟩ (Nat.zero_le _) (Nat.zero_le _) dModel_own_85
theorem eModel_own {D : va_G} {d : Nat} {Q : Int32 → (Nat → Nat → Int32) → (Nat → Int64) → Prop} {F : Nat → Nat → Int32} {G : Nat → Int64} {a0 : Int32} {a1 : Int32} (H : AMi D d nModel_isPerson [.ref 39, .int a0] F G (fun x1_ F1 G1 => ((x1_ = 0 → Q (-1000000001) F1 G1) ∧ (¬ (x1_ = 0) → ((a1 = (-1000000005) → AWi D (d + 1) nModel_own 25 [(0, .ref 39), (1, .int a0), (2, .int a1)] [] F1 G1 Q) ∧ (¬ (a1 = (-1000000005)) → AMi D d nModel_isTrack [.ref 39, .int a1] F1 G1 (fun x2_ F2 G2 => ((¬ x2_ = 0 → AWi D (d + 1) nModel_own 25 [(0, .ref 39), (1, .int a0), (2, .int a1)] [] F2 G2 Q) ∧ (x2_ = 0 → Q (-1000000001) F2 G2))))))))) : AMi D (d + 1) nModel_own [.ref 39, .int a0, .int a1] F G Q := by
  refine AM_intro (by decide) (Nat.le_of_ble_eq_true rfl) ?_
  intro X CX
  refine gw_aload_n CX.1 0 rfl dModel_own_0 rfl ?_
  refine gw_iload_n CX.1 1 rfl dModel_own_1 rfl ?_
  refine cl_Model_isPerson CX (Nat.le_of_ble_eq_true rfl) wm_Model_109 dModel_own_2 H (fun x1_ F1 G1 H => ?_)
  refine gw_if_eq (tgt := 22) CX.1 dModel_own_5 (by decide) (fun c => ?_) (fun c => ?_)
  · replace H := H.1 c
    refine gw_ldc CX.1 wc_Model_85 dModel_own_22 ?_
    exact gw_iret CX rfl rfl ⟨_, _, _, rfl, rfl, H⟩ (Nat.zero_le _) (Nat.zero_le _) dModel_own_24
  · replace H := H.2 c
    refine gw_iload_n CX.1 2 rfl dModel_own_8 rfl ?_
    refine gw_ldc CX.1 wc_Model_94 dModel_own_9 ?_
    refine gw_icmp_eq (tgt := 25) CX.1 dModel_own_11 (by decide) (fun c => ?_) (fun c => ?_)
    · replace H := H.1 c
      exact H X CX
    · replace H := H.2 c
      refine gw_aload_n CX.1 0 rfl dModel_own_14 rfl ?_
      refine gw_iload_n CX.1 2 rfl dModel_own_15 rfl ?_
      refine cl_Model_isTrack CX (Nat.le_of_ble_eq_true rfl) wm_Model_87 dModel_own_16 H (fun x2_ F2 G2 H => ?_)
      refine gw_if_ne (tgt := 25) CX.1 dModel_own_19 (by decide) (fun c => ?_) (fun c => ?_)
      · replace H := H.1 c
        exact H X CX
      · replace H := H.2 c
        refine gw_ldc CX.1 wc_Model_85 dModel_own_22 ?_
        exact gw_iret CX rfl rfl ⟨_, _, _, rfl, rfl, H⟩ (Nat.zero_le _) (Nat.zero_le _) dModel_own_24
theorem bModel_owner_4 {D : va_G} {d : Nat} {Q : Int32 → (Nat → Nat → Int32) → (Nat → Int64) → Prop} {F : Nat → Nat → Int32} {G : Nat → Int64} {x1 : Int32} {x2 : Int32} {x3 : Int32} (H : (((F 111 0) ≤ x3 → Q x2 F G) ∧ (¬ ((F 111 0) ≤ x3) → vp_in x3 10 ∧ ((¬ (F 46 x3.toNatClampNeg) = x1 → AWi D (d + 1) nModel_owner 4 [(0, .ref 39), (1, .int x1), (2, .int x2), (3, .int (x3 + 1))] [] F G Q) ∧ ((F 46 x3.toNatClampNeg) = x1 → AWi D (d + 1) nModel_owner 4 [(0, .ref 39), (1, .int x1), (2, .int x3), (3, .int (x3 + 1))] [] F G Q))))) : AWi D (d + 1) nModel_owner 4 [(0, .ref 39), (1, .int x1), (2, .int x2), (3, .int x3)] [] F G Q := by
  intro X CX
  refine gw_iload_n CX.1 3 rfl dModel_owner_4 rfl ?_
  refine gw_aload_n CX.1 0 rfl dModel_owner_5 rfl ?_
  refine gg_Model_82 CX.1 rfl dModel_owner_6 ?_
  refine gw_icmp_ge (tgt := 34) CX.1 dModel_owner_9 (by decide) (fun c => ?_) (fun c => ?_)
  · replace H := H.1 c
    refine gw_iload_n CX.1 2 rfl dModel_owner_34 rfl ?_
    exact gw_iret CX rfl rfl ⟨_, _, _, rfl, rfl, H⟩ (Nat.zero_le _) (Nat.zero_le _) dModel_owner_35
  · replace H := H.2 c
    refine gw_aload_n CX.1 0 rfl dModel_owner_12 rfl ?_
    refine gg_Model_31 CX.1 rfl dModel_owner_13 ?_
    refine gw_iload_n CX.1 3 rfl dModel_owner_16 rfl ?_
    obtain ⟨hin, H⟩ := H
    refine ga_46 CX.1 hin dModel_owner_17 ?_
    refine gw_iload_n CX.1 1 rfl dModel_owner_18 rfl ?_
    refine gw_icmp_ne (tgt := 26) CX.1 dModel_owner_19 (by decide) (fun c => ?_) (fun c => ?_)
    · replace H := H.1 c
      refine gw_iload_n CX.1 2 rfl dModel_owner_26 rfl ?_
      refine gw_istore_n CX.1 dModel_owner_27 rfl (by decide) rfl ?_
      refine gw_iinc (v := (x3 + 1)) CX.1 3 rfl dModel_owner_28 rfl (by decide) rfl ?_
      refine gw_goto (tgt := 4) CX.1 dModel_owner_31 (by decide) ?_
      exact gw_sub [2, 3, 1, 0] rfl (H X CX)
    · replace H := H.2 c
      refine gw_iload_n CX.1 3 rfl dModel_owner_22 rfl ?_
      refine gw_goto (tgt := 27) CX.1 dModel_owner_23 (by decide) ?_
      refine gw_istore_n CX.1 dModel_owner_27 rfl (by decide) rfl ?_
      refine gw_iinc (v := (x3 + 1)) CX.1 3 rfl dModel_owner_28 rfl (by decide) rfl ?_
      refine gw_goto (tgt := 4) CX.1 dModel_owner_31 (by decide) ?_
      exact gw_sub [2, 3, 1, 0] rfl (H X CX)
theorem eModel_owner {D : va_G} {d : Nat} {Q : Int32 → (Nat → Nat → Int32) → (Nat → Int64) → Prop} {F : Nat → Nat → Int32} {G : Nat → Int64} {a0 : Int32} (H : AWi D (d + 1) nModel_owner 4 [(0, .ref 39), (1, .int a0), (2, .int (-1)), (3, .int 0)] [] F G Q) : AMi D (d + 1) nModel_owner [.ref 39, .int a0] F G Q := by
  refine AM_intro (by decide) (Nat.le_of_ble_eq_true rfl) ?_
  intro X CX
  refine gw_iconst (v := (-1)) CX.1 dModel_owner_0 (by decide) ?_
  refine gw_istore_n CX.1 dModel_owner_1 rfl (by decide) rfl ?_
  refine gw_iconst (v := 0) CX.1 dModel_owner_2 (by decide) ?_
  refine gw_istore_n CX.1 dModel_owner_3 rfl (by decide) rfl ?_
  exact gw_sub [2, 3, 1, 0] rfl (H X CX)
theorem eModel_did {D : va_G} {d : Nat} {Q : Int32 → (Nat → Nat → Int32) → (Nat → Int64) → Prop} {F : Nat → Nat → Int32} {G : Nat → Int64} {a0 : Int32} {a1 : Int32} (H : AMi D d nModel_isPerson [.ref 39, .int a0] F G (fun x1_ F1 G1 => ((x1_ = 0 → Q (-1000000001) F1 G1) ∧ (¬ (x1_ = 0) → AMi D d nModel_isTrack [.ref 39, .int a1] F1 G1 (fun x2_ F2 G2 => ((¬ x2_ = 0 → vp_in ((8 * a0) + a1) 80 ∧ vp_in ((8 * a0) + a1) 80 ∧ ((0 ≤ (F2 47 ((8 * a0) + a1).toNatClampNeg) → Q (((up F2 47 (((8 * a0) + a1).toNatClampNeg) (F2 112 0)) 112 0) - (F2 47 ((8 * a0) + a1).toNatClampNeg)) (up F2 47 (((8 * a0) + a1).toNatClampNeg) (F2 112 0)) G2) ∧ (¬ (0 ≤ (F2 47 ((8 * a0) + a1).toNatClampNeg)) → Q (-1000000005) (up F2 47 (((8 * a0) + a1).toNatClampNeg) (F2 112 0)) G2))) ∧ (x2_ = 0 → Q (-1000000001) F2 G2))))))) : AMi D (d + 1) nModel_did [.ref 39, .int a0, .int a1] F G Q := by
  refine AM_intro (by decide) (Nat.le_of_ble_eq_true rfl) ?_
  intro X CX
  refine gw_aload_n CX.1 0 rfl dModel_did_0 rfl ?_
  refine gw_iload_n CX.1 1 rfl dModel_did_1 rfl ?_
  refine cl_Model_isPerson CX (Nat.le_of_ble_eq_true rfl) wm_Model_109 dModel_did_2 H (fun x1_ F1 G1 H => ?_)
  refine gw_if_eq (tgt := 16) CX.1 dModel_did_5 (by decide) (fun c => ?_) (fun c => ?_)
  · replace H := H.1 c
    refine gw_ldc CX.1 wc_Model_85 dModel_did_16 ?_
    exact gw_iret CX rfl rfl ⟨_, _, _, rfl, rfl, H⟩ (Nat.zero_le _) (Nat.zero_le _) dModel_did_18
  · replace H := H.2 c
    refine gw_aload_n CX.1 0 rfl dModel_did_8 rfl ?_
    refine gw_iload_n CX.1 2 rfl dModel_did_9 rfl ?_
    refine cl_Model_isTrack CX (Nat.le_of_ble_eq_true rfl) wm_Model_87 dModel_did_10 H (fun x2_ F2 G2 H => ?_)
    refine gw_if_ne (tgt := 19) CX.1 dModel_did_13 (by decide) (fun c => ?_) (fun c => ?_)
    · replace H := H.1 c
      refine gw_aload_n CX.1 0 rfl dModel_did_19 rfl ?_
      refine gg_Model_34 CX.1 rfl dModel_did_20 ?_
      refine gw_bipush (v := 8) CX.1 dModel_did_23 (by decide) ?_
      refine gw_iload_n CX.1 1 rfl dModel_did_25 rfl ?_
      refine gw_imul CX.1 dModel_did_26 ?_
      refine gw_iload_n CX.1 2 rfl dModel_did_27 rfl ?_
      refine gw_iadd CX.1 dModel_did_28 ?_
      obtain ⟨hin, H⟩ := H
      refine ga_47 CX.1 hin dModel_did_29 ?_
      refine gw_istore_n CX.1 dModel_did_30 rfl (by decide) rfl ?_
      refine gw_aload_n CX.1 1 rfl dModel_did_31 rfl ?_
      refine gg_Model_34 CX.1 rfl dModel_did_32 ?_
      refine gw_bipush (v := 8) CX.1 dModel_did_35 (by decide) ?_
      refine gw_iload_n CX.1 2 rfl dModel_did_37 rfl ?_
      refine gw_imul CX.1 dModel_did_38 ?_
      refine gw_iload_n CX.1 3 rfl dModel_did_39 rfl ?_
      refine gw_iadd CX.1 dModel_did_40 ?_
      refine gw_aload_n CX.1 1 rfl dModel_did_41 rfl ?_
      refine gg_Model_119 CX.1 rfl dModel_did_42 ?_
      obtain ⟨hin, H⟩ := H
      refine gs_47 CX.1 hin dModel_did_45 ?_
      refine gw_iload_n CX.1 0 rfl dModel_did_46 rfl ?_
      refine gw_if_ge (tgt := 55) CX.1 dModel_did_47 (by decide) (fun c => ?_) (fun c => ?_)
      · replace H := H.1 c
        refine gw_aload_n CX.1 1 rfl dModel_did_55 rfl ?_
        refine gg_Model_119 CX.1 rfl dModel_did_56 ?_
        refine gw_iload_n CX.1 0 rfl dModel_did_59 rfl ?_
        refine gw_isub CX.1 dModel_did_60 ?_
        exact gw_iret CX rfl rfl ⟨_, _, _, rfl, rfl, H⟩ (Nat.zero_le _) (Nat.zero_le _) dModel_did_61
      · replace H := H.2 c
        refine gw_ldc CX.1 wc_Model_94 dModel_did_50 ?_
        refine gw_goto (tgt := 61) CX.1 dModel_did_52 (by decide) ?_
        exact gw_iret CX rfl rfl ⟨_, _, _, rfl, rfl, H⟩ (Nat.zero_le _) (Nat.zero_le _) dModel_did_61
    · replace H := H.2 c
      refine gw_ldc CX.1 wc_Model_85 dModel_did_16 ?_
      exact gw_iret CX rfl rfl ⟨_, _, _, rfl, rfl, H⟩ (Nat.zero_le _) (Nat.zero_le _) dModel_did_18
theorem eModel_fresh {D : va_G} {d : Nat} {Q : Int32 → (Nat → Nat → Int32) → (Nat → Int64) → Prop} {F : Nat → Nat → Int32} {G : Nat → Int64} {a0 : Int32} {a1 : Int32} (H : AMi D d nModel_isPerson [.ref 39, .int a0] F G (fun x1_ F1 G1 => ((x1_ = 0 → Q (-1000000001) F1 G1) ∧ (¬ (x1_ = 0) → AMi D d nModel_isTrack [.ref 39, .int a1] F1 G1 (fun x2_ F2 G2 => ((¬ x2_ = 0 → AMi D d nModel_knows [.ref 39, .int a0, .int a1] F2 G2 (fun x3_ F3 G3 => ((¬ x3_ = 0 → AMi D d nModel_isFresh [.ref 39, .int a0, .int a1] F3 G3 (fun x4_ F4 G4 => ((x4_ = 0 → Q 0 F4 G4) ∧ (¬ (x4_ = 0) → Q 1 F4 G4)))) ∧ (x3_ = 0 → Q (-1000000002) F3 G3)))) ∧ (x2_ = 0 → Q (-1000000001) F2 G2))))))) : AMi D (d + 1) nModel_fresh [.ref 39, .int a0, .int a1] F G Q := by
  refine AM_intro (by decide) (Nat.le_of_ble_eq_true rfl) ?_
  intro X CX
  refine gw_aload_n CX.1 0 rfl dModel_fresh_0 rfl ?_
  refine gw_iload_n CX.1 1 rfl dModel_fresh_1 rfl ?_
  refine cl_Model_isPerson CX (Nat.le_of_ble_eq_true rfl) wm_Model_109 dModel_fresh_2 H (fun x1_ F1 G1 H => ?_)
  refine gw_if_eq (tgt := 16) CX.1 dModel_fresh_5 (by decide) (fun c => ?_) (fun c => ?_)
  · replace H := H.1 c
    refine gw_ldc CX.1 wc_Model_85 dModel_fresh_16 ?_
    exact gw_iret CX rfl rfl ⟨_, _, _, rfl, rfl, H⟩ (Nat.zero_le _) (Nat.zero_le _) dModel_fresh_18
  · replace H := H.2 c
    refine gw_aload_n CX.1 0 rfl dModel_fresh_8 rfl ?_
    refine gw_iload_n CX.1 2 rfl dModel_fresh_9 rfl ?_
    refine cl_Model_isTrack CX (Nat.le_of_ble_eq_true rfl) wm_Model_87 dModel_fresh_10 H (fun x2_ F2 G2 H => ?_)
    refine gw_if_ne (tgt := 19) CX.1 dModel_fresh_13 (by decide) (fun c => ?_) (fun c => ?_)
    · replace H := H.1 c
      refine gw_aload_n CX.1 0 rfl dModel_fresh_19 rfl ?_
      refine gw_iload_n CX.1 1 rfl dModel_fresh_20 rfl ?_
      refine gw_iload_n CX.1 2 rfl dModel_fresh_21 rfl ?_
      refine cl_Model_knows CX (Nat.le_of_ble_eq_true rfl) wm_Model_122 dModel_fresh_22 H (fun x3_ F3 G3 H => ?_)
      refine gw_if_ne (tgt := 33) CX.1 dModel_fresh_25 (by decide) (fun c => ?_) (fun c => ?_)
      · replace H := H.1 c
        refine gw_aload_n CX.1 0 rfl dModel_fresh_33 rfl ?_
        refine gw_iload_n CX.1 1 rfl dModel_fresh_34 rfl ?_
        refine gw_iload_n CX.1 2 rfl dModel_fresh_35 rfl ?_
        refine cl_Model_isFresh CX (Nat.le_of_ble_eq_true rfl) wm_Model_125 dModel_fresh_36 H (fun x4_ F4 G4 H => ?_)
        refine gw_if_eq (tgt := 46) CX.1 dModel_fresh_39 (by decide) (fun c => ?_) (fun c => ?_)
        · replace H := H.1 c
          refine gw_iconst (v := 0) CX.1 dModel_fresh_46 (by decide) ?_
          exact gw_iret CX rfl rfl ⟨_, _, _, rfl, rfl, H⟩ (Nat.zero_le _) (Nat.zero_le _) dModel_fresh_47
        · replace H := H.2 c
          refine gw_iconst (v := 1) CX.1 dModel_fresh_42 (by decide) ?_
          refine gw_goto (tgt := 47) CX.1 dModel_fresh_43 (by decide) ?_
          exact gw_iret CX rfl rfl ⟨_, _, _, rfl, rfl, H⟩ (Nat.zero_le _) (Nat.zero_le _) dModel_fresh_47
      · replace H := H.2 c
        refine gw_ldc CX.1 wc_Model_103 dModel_fresh_28 ?_
        refine gw_goto (tgt := 47) CX.1 dModel_fresh_30 (by decide) ?_
        exact gw_iret CX rfl rfl ⟨_, _, _, rfl, rfl, H⟩ (Nat.zero_le _) (Nat.zero_le _) dModel_fresh_47
    · replace H := H.2 c
      refine gw_ldc CX.1 wc_Model_85 dModel_fresh_16 ?_
      exact gw_iret CX rfl rfl ⟨_, _, _, rfl, rfl, H⟩ (Nat.zero_le _) (Nat.zero_le _) dModel_fresh_18
theorem eModel_knows {D : va_G} {d : Nat} {Q : Int32 → (Nat → Nat → Int32) → (Nat → Int64) → Prop} {F : Nat → Nat → Int32} {G : Nat → Int64} {a0 : Int32} {a1 : Int32} (H : vp_in ((8 * a0) + a1) 80 ∧ (((F 47 ((8 * a0) + a1).toNatClampNeg) < 0 → Q 0 F G) ∧ (¬ ((F 47 ((8 * a0) + a1).toNatClampNeg) < 0) → Q 1 F G))) : AMi D (d + 1) nModel_knows [.ref 39, .int a0, .int a1] F G Q := by
  refine AM_intro (by decide) (Nat.le_of_ble_eq_true rfl) ?_
  intro X CX
  refine gw_aload_n CX.1 0 rfl dModel_knows_0 rfl ?_
  refine gg_Model_34 CX.1 rfl dModel_knows_1 ?_
  refine gw_bipush (v := 8) CX.1 dModel_knows_4 (by decide) ?_
  refine gw_iload_n CX.1 1 rfl dModel_knows_6 rfl ?_
  refine gw_imul CX.1 dModel_knows_7 ?_
  refine gw_iload_n CX.1 2 rfl dModel_knows_8 rfl ?_
  refine gw_iadd CX.1 dModel_knows_9 ?_
  obtain ⟨hin, H⟩ := H
  refine ga_47 CX.1 hin dModel_knows_10 ?_
  refine gw_if_lt (tgt := 18) CX.1 dModel_knows_11 (by decide) (fun c => ?_) (fun c => ?_)
  · replace H := H.1 c
    refine gw_iconst (v := 0) CX.1 dModel_knows_18 (by decide) ?_
    exact gw_iret CX rfl (by decide) ⟨_, _, _, rfl, rfl, H⟩ (Nat.zero_le _) (Nat.zero_le _) dModel_knows_19
  · replace H := H.2 c
    refine gw_iconst (v := 1) CX.1 dModel_knows_14 (by decide) ?_
    refine gw_goto (tgt := 19) CX.1 dModel_knows_15 (by decide) ?_
    exact gw_iret CX rfl (by decide) ⟨_, _, _, rfl, rfl, H⟩ (Nat.zero_le _) (Nat.zero_le _) dModel_knows_19
theorem bModel_isFresh_40 {D : va_G} {d : Nat} {Q : Int32 → (Nat → Nat → Int32) → (Nat → Int64) → Prop} {F : Nat → Nat → Int32} {G : Nat → Int64} {x1 : Int32} {x2 : Int32} {s0 : Int32} {s1 : Int32} (H : ((s0 ≤ s1 → Q 0 F G) ∧ (¬ (s0 ≤ s1) → Q 1 F G))) : AWi D (d + 1) nModel_isFresh 40 [(0, .ref 39), (1, .int x1), (2, .int x2)] [.int s0, .int s1] F G Q := by
  intro X CX
  refine gw_icmp_ge (tgt := 47) CX.1 dModel_isFresh_40 (by decide) (fun c => ?_) (fun c => ?_)
  · replace H := H.1 c
    refine gw_iconst (v := 0) CX.1 dModel_isFresh_47 (by decide) ?_
    exact gw_iret CX rfl (by decide) ⟨_, _, _, rfl, rfl, H⟩ (Nat.zero_le _) (Nat.zero_le _) dModel_isFresh_48
  · replace H := H.2 c
    refine gw_iconst (v := 1) CX.1 dModel_isFresh_43 (by decide) ?_
    refine gw_goto (tgt := 48) CX.1 dModel_isFresh_44 (by decide) ?_
    exact gw_iret CX rfl (by decide) ⟨_, _, _, rfl, rfl, H⟩ (Nat.zero_le _) (Nat.zero_le _) dModel_isFresh_48
theorem eModel_isFresh {D : va_G} {d : Nat} {Q : Int32 → (Nat → Nat → Int32) → (Nat → Int64) → Prop} {F : Nat → Nat → Int32} {G : Nat → Int64} {a0 : Int32} {a1 : Int32} (H : AMi D d nModel_knows [.ref 39, .int a0, .int a1] F G (fun x1_ F1 G1 => ((x1_ = 0 → Q 0 F1 G1) ∧ (¬ (x1_ = 0) → vp_in ((8 * a0) + a1) 80 ∧ AMi D d nModel_isSwing [.ref 39, .int a0] F1 G1 (fun x2_ F2 G2 => ((x2_ = 0 → AWi D (d + 1) nModel_isFresh 40 [(0, .ref 39), (1, .int a0), (2, .int a1)] [.int 30, .int ((F1 112 0) - (F1 47 ((8 * a0) + a1).toNatClampNeg))] F2 G2 Q) ∧ (¬ (x2_ = 0) → AWi D (d + 1) nModel_isFresh 40 [(0, .ref 39), (1, .int a0), (2, .int a1)] [.int 60, .int ((F1 112 0) - (F1 47 ((8 * a0) + a1).toNatClampNeg))] F2 G2 Q))))))) : AMi D (d + 1) nModel_isFresh [.ref 39, .int a0, .int a1] F G Q := by
  refine AM_intro (by decide) (Nat.le_of_ble_eq_true rfl) ?_
  intro X CX
  refine gw_aload_n CX.1 0 rfl dModel_isFresh_0 rfl ?_
  refine gw_iload_n CX.1 1 rfl dModel_isFresh_1 rfl ?_
  refine gw_iload_n CX.1 2 rfl dModel_isFresh_2 rfl ?_
  refine cl_Model_knows CX (Nat.le_of_ble_eq_true rfl) wm_Model_122 dModel_isFresh_3 H (fun x1_ F1 G1 H => ?_)
  refine gw_if_eq (tgt := 47) CX.1 dModel_isFresh_6 (by decide) (fun c => ?_) (fun c => ?_)
  · replace H := H.1 c
    refine gw_iconst (v := 0) CX.1 dModel_isFresh_47 (by decide) ?_
    exact gw_iret CX rfl (by decide) ⟨_, _, _, rfl, rfl, H⟩ (Nat.zero_le _) (Nat.zero_le _) dModel_isFresh_48
  · replace H := H.2 c
    refine gw_aload_n CX.1 0 rfl dModel_isFresh_9 rfl ?_
    refine gg_Model_119 CX.1 rfl dModel_isFresh_10 ?_
    refine gw_aload_n CX.1 0 rfl dModel_isFresh_13 rfl ?_
    refine gg_Model_34 CX.1 rfl dModel_isFresh_14 ?_
    refine gw_bipush (v := 8) CX.1 dModel_isFresh_17 (by decide) ?_
    refine gw_iload_n CX.1 1 rfl dModel_isFresh_19 rfl ?_
    refine gw_imul CX.1 dModel_isFresh_20 ?_
    refine gw_iload_n CX.1 2 rfl dModel_isFresh_21 rfl ?_
    refine gw_iadd CX.1 dModel_isFresh_22 ?_
    obtain ⟨hin, H⟩ := H
    refine ga_47 CX.1 hin dModel_isFresh_23 ?_
    refine gw_isub CX.1 dModel_isFresh_24 ?_
    refine gw_aload_n CX.1 0 rfl dModel_isFresh_25 rfl ?_
    refine gw_iload_n CX.1 1 rfl dModel_isFresh_26 rfl ?_
    refine cl_Model_isSwing CX (Nat.le_of_ble_eq_true rfl) wm_Model_112 dModel_isFresh_27 H (fun x2_ F2 G2 H => ?_)
    refine gw_if_eq (tgt := 38) CX.1 dModel_isFresh_30 (by decide) (fun c => ?_) (fun c => ?_)
    · replace H := H.1 c
      refine gw_bipush (v := 30) CX.1 dModel_isFresh_38 (by decide) ?_
      exact H X CX
    · replace H := H.2 c
      refine gw_bipush (v := 60) CX.1 dModel_isFresh_33 (by decide) ?_
      refine gw_goto (tgt := 40) CX.1 dModel_isFresh_35 (by decide) ?_
      exact H X CX
theorem eModel_rehearse {D : va_G} {d : Nat} {Q : Int32 → (Nat → Nat → Int32) → (Nat → Int64) → Prop} {F : Nat → Nat → Int32} {G : Nat → Int64} {a0 : Int32} {a1 : Int32} (H : AMi D d nModel_isPerson [.ref 39, .int a0] F G (fun x1_ F1 G1 => ((x1_ = 0 → Q (-1000000001) F1 G1) ∧ (¬ (x1_ = 0) → AMi D d nModel_isPerson [.ref 39, .int a1] F1 G1 (fun x2_ F2 G2 => ((x2_ = 0 → Q (-1000000001) F2 G2) ∧ (¬ (x2_ = 0) → ((¬ a0 = a1 → vp_in ((10 * a0) + a1) 100 ∧ vp_in ((10 * a0) + a1) 100 ∧ ((0 ≤ (F2 48 ((10 * a0) + a1).toNatClampNeg) → Q (((up F2 48 (((10 * a0) + a1).toNatClampNeg) (F2 112 0)) 112 0) - (F2 48 ((10 * a0) + a1).toNatClampNeg)) (up F2 48 (((10 * a0) + a1).toNatClampNeg) (F2 112 0)) G2) ∧ (¬ (0 ≤ (F2 48 ((10 * a0) + a1).toNatClampNeg)) → Q (-1000000005) (up F2 48 (((10 * a0) + a1).toNatClampNeg) (F2 112 0)) G2))) ∧ (a0 = a1 → Q (-1000000001) F2 G2))))))))) : AMi D (d + 1) nModel_rehearse [.ref 39, .int a0, .int a1] F G Q := by
  refine AM_intro (by decide) (Nat.le_of_ble_eq_true rfl) ?_
  intro X CX
  refine gw_aload_n CX.1 0 rfl dModel_rehearse_0 rfl ?_
  refine gw_iload_n CX.1 1 rfl dModel_rehearse_1 rfl ?_
  refine cl_Model_isPerson CX (Nat.le_of_ble_eq_true rfl) wm_Model_109 dModel_rehearse_2 H (fun x1_ F1 G1 H => ?_)
  refine gw_if_eq (tgt := 21) CX.1 dModel_rehearse_5 (by decide) (fun c => ?_) (fun c => ?_)
  · replace H := H.1 c
    refine gw_ldc CX.1 wc_Model_85 dModel_rehearse_21 ?_
    exact gw_iret CX rfl rfl ⟨_, _, _, rfl, rfl, H⟩ (Nat.zero_le _) (Nat.zero_le _) dModel_rehearse_23
  · replace H := H.2 c
    refine gw_aload_n CX.1 0 rfl dModel_rehearse_8 rfl ?_
    refine gw_iload_n CX.1 2 rfl dModel_rehearse_9 rfl ?_
    refine cl_Model_isPerson CX (Nat.le_of_ble_eq_true rfl) wm_Model_109 dModel_rehearse_10 H (fun x2_ F2 G2 H => ?_)
    refine gw_if_eq (tgt := 21) CX.1 dModel_rehearse_13 (by decide) (fun c => ?_) (fun c => ?_)
    · replace H := H.1 c
      refine gw_ldc CX.1 wc_Model_85 dModel_rehearse_21 ?_
      exact gw_iret CX rfl rfl ⟨_, _, _, rfl, rfl, H⟩ (Nat.zero_le _) (Nat.zero_le _) dModel_rehearse_23
    · replace H := H.2 c
      refine gw_iload_n CX.1 1 rfl dModel_rehearse_16 rfl ?_
      refine gw_iload_n CX.1 2 rfl dModel_rehearse_17 rfl ?_
      refine gw_icmp_ne (tgt := 24) CX.1 dModel_rehearse_18 (by decide) (fun c => ?_) (fun c => ?_)
      · replace H := H.1 c
        refine gw_aload_n CX.1 0 rfl dModel_rehearse_24 rfl ?_
        refine gg_Model_37 CX.1 rfl dModel_rehearse_25 ?_
        refine gw_bipush (v := 10) CX.1 dModel_rehearse_28 (by decide) ?_
        refine gw_iload_n CX.1 1 rfl dModel_rehearse_30 rfl ?_
        refine gw_imul CX.1 dModel_rehearse_31 ?_
        refine gw_iload_n CX.1 2 rfl dModel_rehearse_32 rfl ?_
        refine gw_iadd CX.1 dModel_rehearse_33 ?_
        obtain ⟨hin, H⟩ := H
        refine ga_48 CX.1 hin dModel_rehearse_34 ?_
        refine gw_istore_n CX.1 dModel_rehearse_35 rfl (by decide) rfl ?_
        refine gw_aload_n CX.1 1 rfl dModel_rehearse_36 rfl ?_
        refine gg_Model_37 CX.1 rfl dModel_rehearse_37 ?_
        refine gw_bipush (v := 10) CX.1 dModel_rehearse_40 (by decide) ?_
        refine gw_iload_n CX.1 2 rfl dModel_rehearse_42 rfl ?_
        refine gw_imul CX.1 dModel_rehearse_43 ?_
        refine gw_iload_n CX.1 3 rfl dModel_rehearse_44 rfl ?_
        refine gw_iadd CX.1 dModel_rehearse_45 ?_
        refine gw_aload_n CX.1 1 rfl dModel_rehearse_46 rfl ?_
        refine gg_Model_119 CX.1 rfl dModel_rehearse_47 ?_
        obtain ⟨hin, H⟩ := H
        refine gs_48 CX.1 hin dModel_rehearse_50 ?_
        refine gw_iload_n CX.1 0 rfl dModel_rehearse_51 rfl ?_
        refine gw_if_ge (tgt := 60) CX.1 dModel_rehearse_52 (by decide) (fun c => ?_) (fun c => ?_)
        · replace H := H.1 c
          refine gw_aload_n CX.1 1 rfl dModel_rehearse_60 rfl ?_
          refine gg_Model_119 CX.1 rfl dModel_rehearse_61 ?_
          refine gw_iload_n CX.1 0 rfl dModel_rehearse_64 rfl ?_
          refine gw_isub CX.1 dModel_rehearse_65 ?_
          exact gw_iret CX rfl rfl ⟨_, _, _, rfl, rfl, H⟩ (Nat.zero_le _) (Nat.zero_le _) dModel_rehearse_66
        · replace H := H.2 c
          refine gw_ldc CX.1 wc_Model_94 dModel_rehearse_55 ?_
          refine gw_goto (tgt := 66) CX.1 dModel_rehearse_57 (by decide) ?_
          exact gw_iret CX rfl rfl ⟨_, _, _, rfl, rfl, H⟩ (Nat.zero_le _) (Nat.zero_le _) dModel_rehearse_66
      · replace H := H.2 c
        refine gw_ldc CX.1 wc_Model_85 dModel_rehearse_21 ?_
        exact gw_iret CX rfl rfl ⟨_, _, _, rfl, rfl, H⟩ (Nat.zero_le _) (Nat.zero_le _) dModel_rehearse_23
theorem eModel_feud {D : va_G} {d : Nat} {Q : Int32 → (Nat → Nat → Int32) → (Nat → Int64) → Prop} {F : Nat → Nat → Int32} {G : Nat → Int64} {a0 : Int32} {a1 : Int32} {a2 : Int32} (H : AMi D d nModel_isPerson [.ref 39, .int a0] F G (fun x1_ F1 G1 => ((x1_ = 0 → Q (-1000000001) F1 G1) ∧ (¬ (x1_ = 0) → AMi D d nModel_isPerson [.ref 39, .int a1] F1 G1 (fun x2_ F2 G2 => ((x2_ = 0 → Q (-1000000001) F2 G2) ∧ (¬ (x2_ = 0) → ((a0 = a1 → Q (-1000000001) F2 G2) ∧ (¬ (a0 = a1) → AMi D d nModel_isIn [.int a2, .int 0, .int 1] F2 G2 (fun x3_ F3 G3 => ((¬ x3_ = 0 → vp_in a0 10 ∧ (((((F3 49 a0.toNatClampNeg) >>> (a1 &&& 31)) &&& 1) = a2 → Q (((F3 49 a0.toNatClampNeg) >>> (a1 &&& 31)) &&& 1) F3 G3) ∧ (¬ ((((F3 49 a0.toNatClampNeg) >>> (a1 &&& 31)) &&& 1) = a2) → vp_in a0 10 ∧ vp_in a0 10 ∧ vp_in a1 10 ∧ vp_in a1 10 ∧ Q (((F3 49 a0.toNatClampNeg) >>> (a1 &&& 31)) &&& 1) (up (up F3 49 (a0.toNatClampNeg) ((F3 49 a0.toNatClampNeg) ^^^ (1 <<< (a1 &&& 31)))) 49 (a1.toNatClampNeg) (((up F3 49 (a0.toNatClampNeg) ((F3 49 a0.toNatClampNeg) ^^^ (1 <<< (a1 &&& 31)))) 49 a1.toNatClampNeg) ^^^ (1 <<< (a0 &&& 31)))) G3))) ∧ (x3_ = 0 → Q (-1000000001) F3 G3)))))))))))) : AMi D (d + 1) nModel_feud [.ref 39, .int a0, .int a1, .int a2] F G Q := by
  refine AM_intro (by decide) (Nat.le_of_ble_eq_true rfl) ?_
  intro X CX
  refine gw_aload_n CX.1 0 rfl dModel_feud_0 rfl ?_
  refine gw_iload_n CX.1 1 rfl dModel_feud_1 rfl ?_
  refine cl_Model_isPerson CX (Nat.le_of_ble_eq_true rfl) wm_Model_109 dModel_feud_2 H (fun x1_ F1 G1 H => ?_)
  refine gw_if_eq (tgt := 30) CX.1 dModel_feud_5 (by decide) (fun c => ?_) (fun c => ?_)
  · replace H := H.1 c
    refine gw_ldc CX.1 wc_Model_85 dModel_feud_30 ?_
    exact gw_iret CX rfl rfl ⟨_, _, _, rfl, rfl, H⟩ (Nat.zero_le _) (Nat.zero_le _) dModel_feud_32
  · replace H := H.2 c
    refine gw_aload_n CX.1 0 rfl dModel_feud_8 rfl ?_
    refine gw_iload_n CX.1 2 rfl dModel_feud_9 rfl ?_
    refine cl_Model_isPerson CX (Nat.le_of_ble_eq_true rfl) wm_Model_109 dModel_feud_10 H (fun x2_ F2 G2 H => ?_)
    refine gw_if_eq (tgt := 30) CX.1 dModel_feud_13 (by decide) (fun c => ?_) (fun c => ?_)
    · replace H := H.1 c
      refine gw_ldc CX.1 wc_Model_85 dModel_feud_30 ?_
      exact gw_iret CX rfl rfl ⟨_, _, _, rfl, rfl, H⟩ (Nat.zero_le _) (Nat.zero_le _) dModel_feud_32
    · replace H := H.2 c
      refine gw_iload_n CX.1 1 rfl dModel_feud_16 rfl ?_
      refine gw_iload_n CX.1 2 rfl dModel_feud_17 rfl ?_
      refine gw_icmp_eq (tgt := 30) CX.1 dModel_feud_18 (by decide) (fun c => ?_) (fun c => ?_)
      · replace H := H.1 c
        refine gw_ldc CX.1 wc_Model_85 dModel_feud_30 ?_
        exact gw_iret CX rfl rfl ⟨_, _, _, rfl, rfl, H⟩ (Nat.zero_le _) (Nat.zero_le _) dModel_feud_32
      · replace H := H.2 c
        refine gw_iload_n CX.1 3 rfl dModel_feud_21 rfl ?_
        refine gw_iconst (v := 0) CX.1 dModel_feud_22 (by decide) ?_
        refine gw_iconst (v := 1) CX.1 dModel_feud_23 (by decide) ?_
        refine cl_Model_isIn CX (Nat.le_of_ble_eq_true rfl) wm_Model_78 dModel_feud_24 H (fun x3_ F3 G3 H => ?_)
        refine gw_if_ne (tgt := 33) CX.1 dModel_feud_27 (by decide) (fun c => ?_) (fun c => ?_)
        · replace H := H.1 c
          refine gw_aload_n CX.1 0 rfl dModel_feud_33 rfl ?_
          refine gg_Model_40 CX.1 rfl dModel_feud_34 ?_
          refine gw_iload_n CX.1 1 rfl dModel_feud_37 rfl ?_
          obtain ⟨hin, H⟩ := H
          refine ga_49 CX.1 hin dModel_feud_38 ?_
          refine gw_iload_n CX.1 2 rfl dModel_feud_39 rfl ?_
          refine gw_ishr CX.1 dModel_feud_40 ?_
          refine gw_iconst (v := 1) CX.1 dModel_feud_41 (by decide) ?_
          refine gw_iand CX.1 dModel_feud_42 ?_
          refine gw_istore CX.1 dModel_feud_43 (by decide) rfl ?_
          refine gw_iload CX.1 0 rfl dModel_feud_45 ?_
          refine gw_iload_n CX.1 4 rfl dModel_feud_47 rfl ?_
          refine gw_icmp_eq (tgt := 75) CX.1 dModel_feud_48 (by decide) (fun c => ?_) (fun c => ?_)
          · replace H := H.1 c
            refine gw_iload CX.1 0 rfl dModel_feud_75 ?_
            exact gw_iret CX rfl rfl ⟨_, _, _, rfl, rfl, H⟩ (Nat.zero_le _) (Nat.zero_le _) dModel_feud_77
          · replace H := H.2 c
            refine gw_aload_n CX.1 1 rfl dModel_feud_51 rfl ?_
            refine gg_Model_40 CX.1 rfl dModel_feud_52 ?_
            refine gw_iload_n CX.1 2 rfl dModel_feud_55 rfl ?_
            refine gw_dup2 CX.1 dModel_feud_56 rfl rfl ?_
            obtain ⟨hin, H⟩ := H
            refine ga_49 CX.1 hin dModel_feud_57 ?_
            refine gw_iconst (v := 1) CX.1 dModel_feud_58 (by decide) ?_
            refine gw_iload_n CX.1 3 rfl dModel_feud_59 rfl ?_
            refine gw_ishl CX.1 dModel_feud_60 ?_
            refine gw_ixor CX.1 dModel_feud_61 ?_
            obtain ⟨hin, H⟩ := H
            refine gs_49 CX.1 hin dModel_feud_62 ?_
            refine gw_aload_n CX.1 1 rfl dModel_feud_63 rfl ?_
            refine gg_Model_40 CX.1 rfl dModel_feud_64 ?_
            refine gw_iload_n CX.1 3 rfl dModel_feud_67 rfl ?_
            refine gw_dup2 CX.1 dModel_feud_68 rfl rfl ?_
            obtain ⟨hin, H⟩ := H
            refine ga_49 CX.1 hin dModel_feud_69 ?_
            refine gw_iconst (v := 1) CX.1 dModel_feud_70 (by decide) ?_
            refine gw_iload_n CX.1 2 rfl dModel_feud_71 rfl ?_
            refine gw_ishl CX.1 dModel_feud_72 ?_
            refine gw_ixor CX.1 dModel_feud_73 ?_
            obtain ⟨hin, H⟩ := H
            refine gs_49 CX.1 hin dModel_feud_74 ?_
            refine gw_iload CX.1 0 rfl dModel_feud_75 ?_
            exact gw_iret CX rfl rfl ⟨_, _, _, rfl, rfl, H⟩ (Nat.zero_le _) (Nat.zero_le _) dModel_feud_77
        · replace H := H.2 c
          refine gw_ldc CX.1 wc_Model_85 dModel_feud_30 ?_
          exact gw_iret CX rfl rfl ⟨_, _, _, rfl, rfl, H⟩ (Nat.zero_le _) (Nat.zero_le _) dModel_feud_32
theorem bModel_days_37 {D : va_G} {d : Nat} {Q : Int32 → (Nat → Nat → Int32) → (Nat → Int64) → Prop} {F : Nat → Nat → Int32} {G : Nat → Int64} {x1 : Int32} {x2 : Int32} (H : (((F 111 0) ≤ x2 → Q ((upS F 113 0) 112 0) (upS F 113 0) G) ∧ (¬ ((F 111 0) ≤ x2) → vp_in x2 10 ∧ AWi D (d + 1) nModel_days 37 [(0, .ref 39), (1, .int x1), (2, .int (x2 + 1))] [] (up F 50 (x2.toNatClampNeg) 30) G Q))) : AWi D (d + 1) nModel_days 37 [(0, .ref 39), (1, .int x1), (2, .int x2)] [] F G Q := by
  intro X CX
  refine gw_iload_n CX.1 2 rfl dModel_days_37 rfl ?_
  refine gw_aload_n CX.1 0 rfl dModel_days_38 rfl ?_
  refine gg_Model_82 CX.1 rfl dModel_days_39 ?_
  refine gw_icmp_ge (tgt := 59) CX.1 dModel_days_42 (by decide) (fun c => ?_) (fun c => ?_)
  · replace H := H.1 c
    refine gw_aload_n CX.1 0 rfl dModel_days_59 rfl ?_
    refine gw_iconst (v := 0) CX.1 dModel_days_60 (by decide) ?_
    refine gp_Model_128 CX.1 rfl (by decide) dModel_days_61 ?_
    refine gw_aload_n CX.1 0 rfl dModel_days_64 rfl ?_
    refine gg_Model_119 CX.1 rfl dModel_days_65 ?_
    exact gw_iret CX rfl rfl ⟨_, _, _, rfl, rfl, H⟩ (Nat.zero_le _) (Nat.zero_le _) dModel_days_68
  · replace H := H.2 c
    refine gw_aload_n CX.1 0 rfl dModel_days_45 rfl ?_
    refine gg_Model_43 CX.1 rfl dModel_days_46 ?_
    refine gw_iload_n CX.1 2 rfl dModel_days_49 rfl ?_
    refine gw_bipush (v := 30) CX.1 dModel_days_50 (by decide) ?_
    obtain ⟨hin, H⟩ := H
    refine gs_50 CX.1 hin dModel_days_52 ?_
    refine gw_iinc (v := (x2 + 1)) CX.1 2 rfl dModel_days_53 rfl (by decide) rfl ?_
    refine gw_goto (tgt := 37) CX.1 dModel_days_56 (by decide) ?_
    exact gw_sub [1, 2, 0] rfl (H X CX)
theorem eModel_days {D : va_G} {d : Nat} {Q : Int32 → (Nat → Nat → Int32) → (Nat → Int64) → Prop} {F : Nat → Nat → Int32} {G : Nat → Int64} {a0 : Int32} (H : AMi D d nModel_isIn [.int a0, .int 1, .int 60] F G (fun x1_ F1 G1 => ((x1_ = 0 → Q (-1000000001) F1 G1) ∧ (¬ (x1_ = 0) → ((((F1 112 0) + a0) ≤ 400 → AWi D (d + 1) nModel_days 37 [(0, .ref 39), (1, .int a0), (2, .int 0)] [] (upS F1 112 ((F1 112 0) + a0)) G1 Q) ∧ (¬ (((F1 112 0) + a0) ≤ 400) → Q (-1000000001) F1 G1)))))) : AMi D (d + 1) nModel_days [.ref 39, .int a0] F G Q := by
  refine AM_intro (by decide) (Nat.le_of_ble_eq_true rfl) ?_
  intro X CX
  refine gw_iload_n CX.1 1 rfl dModel_days_0 rfl ?_
  refine gw_iconst (v := 1) CX.1 dModel_days_1 (by decide) ?_
  refine gw_bipush (v := 60) CX.1 dModel_days_2 (by decide) ?_
  refine cl_Model_isIn CX (Nat.le_of_ble_eq_true rfl) wm_Model_78 dModel_days_4 H (fun x1_ F1 G1 H => ?_)
  refine gw_if_eq (tgt := 22) CX.1 dModel_days_7 (by decide) (fun c => ?_) (fun c => ?_)
  · replace H := H.1 c
    refine gw_ldc CX.1 wc_Model_85 dModel_days_22 ?_
    exact gw_iret CX rfl rfl ⟨_, _, _, rfl, rfl, H⟩ (Nat.zero_le _) (Nat.zero_le _) dModel_days_24
  · replace H := H.2 c
    refine gw_aload_n CX.1 0 rfl dModel_days_10 rfl ?_
    refine gg_Model_119 CX.1 rfl dModel_days_11 ?_
    refine gw_iload_n CX.1 1 rfl dModel_days_14 rfl ?_
    refine gw_iadd CX.1 dModel_days_15 ?_
    refine gw_sipush (v := 400) CX.1 dModel_days_16 (by decide) ?_
    refine gw_icmp_le (tgt := 25) CX.1 dModel_days_19 (by decide) (fun c => ?_) (fun c => ?_)
    · replace H := H.1 c
      refine gw_aload_n CX.1 0 rfl dModel_days_25 rfl ?_
      refine gw_dup CX.1 dModel_days_26 rfl ?_
      refine gg_Model_119 CX.1 rfl dModel_days_27 ?_
      refine gw_iload_n CX.1 1 rfl dModel_days_30 rfl ?_
      refine gw_iadd CX.1 dModel_days_31 ?_
      refine gp_Model_119 CX.1 rfl dModel_days_32 ?_
      refine gw_iconst (v := 0) CX.1 dModel_days_35 (by decide) ?_
      refine gw_istore_n CX.1 dModel_days_36 rfl (by decide) rfl ?_
      exact gw_sub [1, 2, 0] rfl (H X CX)
    · replace H := H.2 c
      refine gw_ldc CX.1 wc_Model_85 dModel_days_22 ?_
      exact gw_iret CX rfl rfl ⟨_, _, _, rfl, rfl, H⟩ (Nat.zero_le _) (Nat.zero_le _) dModel_days_24
theorem eModel_out {D : va_G} {d : Nat} {Q : Int32 → (Nat → Nat → Int32) → (Nat → Int64) → Prop} {F : Nat → Nat → Int32} {G : Nat → Int64} {a0 : Int32} {a1 : Int32} (H : AMi D d nModel_isPerson [.ref 39, .int a0] F G (fun x1_ F1 G1 => ((x1_ = 0 → Q (-1000000001) F1 G1) ∧ (¬ (x1_ = 0) → AMi D d nModel_isIn [.int a1, .int 0, .int 30] F1 G1 (fun x2_ F2 G2 => ((¬ x2_ = 0 → vp_in a0 10 ∧ vp_in a0 10 ∧ Q (F2 50 a0.toNatClampNeg) (up F2 50 (a0.toNatClampNeg) a1) G2) ∧ (x2_ = 0 → Q (-1000000001) F2 G2))))))) : AMi D (d + 1) nModel_out [.ref 39, .int a0, .int a1] F G Q := by
  refine AM_intro (by decide) (Nat.le_of_ble_eq_true rfl) ?_
  intro X CX
  refine gw_aload_n CX.1 0 rfl dModel_out_0 rfl ?_
  refine gw_iload_n CX.1 1 rfl dModel_out_1 rfl ?_
  refine cl_Model_isPerson CX (Nat.le_of_ble_eq_true rfl) wm_Model_109 dModel_out_2 H (fun x1_ F1 G1 H => ?_)
  refine gw_if_eq (tgt := 18) CX.1 dModel_out_5 (by decide) (fun c => ?_) (fun c => ?_)
  · replace H := H.1 c
    refine gw_ldc CX.1 wc_Model_85 dModel_out_18 ?_
    exact gw_iret CX rfl rfl ⟨_, _, _, rfl, rfl, H⟩ (Nat.zero_le _) (Nat.zero_le _) dModel_out_20
  · replace H := H.2 c
    refine gw_iload_n CX.1 2 rfl dModel_out_8 rfl ?_
    refine gw_iconst (v := 0) CX.1 dModel_out_9 (by decide) ?_
    refine gw_bipush (v := 30) CX.1 dModel_out_10 (by decide) ?_
    refine cl_Model_isIn CX (Nat.le_of_ble_eq_true rfl) wm_Model_78 dModel_out_12 H (fun x2_ F2 G2 H => ?_)
    refine gw_if_ne (tgt := 21) CX.1 dModel_out_15 (by decide) (fun c => ?_) (fun c => ?_)
    · replace H := H.1 c
      refine gw_aload_n CX.1 0 rfl dModel_out_21 rfl ?_
      refine gg_Model_43 CX.1 rfl dModel_out_22 ?_
      refine gw_iload_n CX.1 1 rfl dModel_out_25 rfl ?_
      obtain ⟨hin, H⟩ := H
      refine ga_50 CX.1 hin dModel_out_26 ?_
      refine gw_istore_n CX.1 dModel_out_27 rfl (by decide) rfl ?_
      refine gw_aload_n CX.1 1 rfl dModel_out_28 rfl ?_
      refine gg_Model_43 CX.1 rfl dModel_out_29 ?_
      refine gw_iload_n CX.1 2 rfl dModel_out_32 rfl ?_
      refine gw_iload_n CX.1 3 rfl dModel_out_33 rfl ?_
      obtain ⟨hin, H⟩ := H
      refine gs_50 CX.1 hin dModel_out_34 ?_
      refine gw_iload_n CX.1 0 rfl dModel_out_35 rfl ?_
      exact gw_iret CX rfl rfl ⟨_, _, _, rfl, rfl, H⟩ (Nat.zero_le _) (Nat.zero_le _) dModel_out_36
    · replace H := H.2 c
      refine gw_ldc CX.1 wc_Model_85 dModel_out_18 ?_
      exact gw_iret CX rfl rfl ⟨_, _, _, rfl, rfl, H⟩ (Nat.zero_le _) (Nat.zero_le _) dModel_out_20
theorem bModel_cast_51 {D : va_G} {d : Nat} {Q : Int32 → (Nat → Nat → Int32) → (Nat → Int64) → Prop} {F : Nat → Nat → Int32} {G : Nat → Int64} {x1 : Int32} {x2 : Int32} (H : ((8 ≤ x2 → Q (F 114 0) F G) ∧ (¬ (8 ≤ x2) → (((F 110 0) ≤ x2 → vp_in x2 8 ∧ AWi D (d + 1) nModel_cast 83 [(0, .ref 39), (1, .int x1), (2, .int x2), (3, .int 0)] [] (up F 51 (x2.toNatClampNeg) (-1)) G Q) ∧ (¬ ((F 110 0) ≤ x2) → vp_in x2 8 ∧ vp_in x2 8 ∧ AWi D (d + 1) nModel_cast 83 [(0, .ref 39), (1, .int x1), (2, .int x2), (3, .int 0)] [] (up F 51 (x2.toNatClampNeg) (F 56 x2.toNatClampNeg)) G Q))))) : AWi D (d + 1) nModel_cast 51 [(0, .ref 39), (1, .int x1), (2, .int x2)] [] F G Q := by
  intro X CX
  refine gw_iload_n CX.1 2 rfl dModel_cast_51 rfl ?_
  refine gw_bipush (v := 8) CX.1 dModel_cast_52 (by decide) ?_
  refine gw_icmp_ge (tgt := 118) CX.1 dModel_cast_54 (by decide) (fun c => ?_) (fun c => ?_)
  · replace H := H.1 c
    refine gw_aload_n CX.1 0 rfl dModel_cast_118 rfl ?_
    refine gg_Model_165 CX.1 rfl dModel_cast_119 ?_
    exact gw_iret CX rfl rfl ⟨_, _, _, rfl, rfl, H⟩ (Nat.zero_le _) (Nat.zero_le _) dModel_cast_122
  · replace H := H.2 c
    refine gw_aload_n CX.1 0 rfl dModel_cast_57 rfl ?_
    refine gg_Model_46 CX.1 rfl dModel_cast_58 ?_
    refine gw_iload_n CX.1 2 rfl dModel_cast_61 rfl ?_
    refine gw_iload_n CX.1 2 rfl dModel_cast_62 rfl ?_
    refine gw_aload_n CX.1 0 rfl dModel_cast_63 rfl ?_
    refine gg_Model_74 CX.1 rfl dModel_cast_64 ?_
    refine gw_icmp_ge (tgt := 79) CX.1 dModel_cast_67 (by decide) (fun c => ?_) (fun c => ?_)
    · replace H := H.1 c
      refine gw_iconst (v := (-1)) CX.1 dModel_cast_79 (by decide) ?_
      obtain ⟨hin, H⟩ := H
      refine gs_51 CX.1 hin dModel_cast_80 ?_
      refine gw_iconst (v := 0) CX.1 dModel_cast_81 (by decide) ?_
      refine gw_istore_n CX.1 dModel_cast_82 rfl (by decide) rfl ?_
      exact gw_sub [1, 2, 3, 0] rfl (H X CX)
    · replace H := H.2 c
      refine gw_aload_n CX.1 0 rfl dModel_cast_70 rfl ?_
      refine gg_Model_61 CX.1 rfl dModel_cast_71 ?_
      refine gw_iload_n CX.1 2 rfl dModel_cast_74 rfl ?_
      obtain ⟨hin, H⟩ := H
      refine ga_56 CX.1 hin dModel_cast_75 ?_
      refine gw_goto (tgt := 80) CX.1 dModel_cast_76 (by decide) ?_
      obtain ⟨hin, H⟩ := H
      refine gs_51 CX.1 hin dModel_cast_80 ?_
      refine gw_iconst (v := 0) CX.1 dModel_cast_81 (by decide) ?_
      refine gw_istore_n CX.1 dModel_cast_82 rfl (by decide) rfl ?_
      exact gw_sub [1, 2, 3, 0] rfl (H X CX)
theorem bModel_cast_83 {D : va_G} {d : Nat} {Q : Int32 → (Nat → Nat → Int32) → (Nat → Int64) → Prop} {F : Nat → Nat → Int32} {G : Nat → Int64} {x1 : Int32} {x2 : Int32} {x3 : Int32} (H : ((30 ≤ x3 → AWi D (d + 1) nModel_cast 51 [(0, .ref 39), (1, .int x1), (2, .int (x2 + 1))] [] F G Q) ∧ (¬ (30 ≤ x3) → vp_in x2 8 ∧ vp_in ((30 * x2) + x3) 240 ∧ AWi D (d + 1) nModel_cast 83 [(0, .ref 39), (1, .int x1), (2, .int x2), (3, .int (x3 + 1))] [] (up F 52 (((30 * x2) + x3).toNatClampNeg) (F 51 x2.toNatClampNeg)) G Q))) : AWi D (d + 1) nModel_cast 83 [(0, .ref 39), (1, .int x1), (2, .int x2), (3, .int x3)] [] F G Q := by
  intro X CX
  refine gw_iload_n CX.1 3 rfl dModel_cast_83 rfl ?_
  refine gw_bipush (v := 30) CX.1 dModel_cast_84 (by decide) ?_
  refine gw_icmp_ge (tgt := 112) CX.1 dModel_cast_86 (by decide) (fun c => ?_) (fun c => ?_)
  · replace H := H.1 c
    refine gw_iinc (v := (x2 + 1)) CX.1 2 rfl dModel_cast_112 rfl (by decide) rfl ?_
    refine gw_goto (tgt := 51) CX.1 dModel_cast_115 (by decide) ?_
    exact gw_sub [1, 2, 0] rfl (H X CX)
  · replace H := H.2 c
    refine gw_aload_n CX.1 0 rfl dModel_cast_89 rfl ?_
    refine gg_Model_49 CX.1 rfl dModel_cast_90 ?_
    refine gw_bipush (v := 30) CX.1 dModel_cast_93 (by decide) ?_
    refine gw_iload_n CX.1 2 rfl dModel_cast_95 rfl ?_
    refine gw_imul CX.1 dModel_cast_96 ?_
    refine gw_iload_n CX.1 3 rfl dModel_cast_97 rfl ?_
    refine gw_iadd CX.1 dModel_cast_98 ?_
    refine gw_aload_n CX.1 0 rfl dModel_cast_99 rfl ?_
    refine gg_Model_46 CX.1 rfl dModel_cast_100 ?_
    refine gw_iload_n CX.1 2 rfl dModel_cast_103 rfl ?_
    obtain ⟨hin, H⟩ := H
    refine ga_51 CX.1 hin dModel_cast_104 ?_
    obtain ⟨hin, H⟩ := H
    refine gs_52 CX.1 hin dModel_cast_105 ?_
    refine gw_iinc (v := (x3 + 1)) CX.1 3 rfl dModel_cast_106 rfl (by decide) rfl ?_
    refine gw_goto (tgt := 83) CX.1 dModel_cast_109 (by decide) ?_
    exact gw_sub [1, 2, 3, 0] rfl (H X CX)
theorem eModel_cast {D : va_G} {d : Nat} {Q : Int32 → (Nat → Nat → Int32) → (Nat → Int64) → Prop} {F : Nat → Nat → Int32} {G : Nat → Int64} {a0 : Int32} (H : AMi D d nModel_isIn [.int a0, .int 1, .int 30000] F G (fun x1_ F1 G1 => ((¬ x1_ = 0 → AMv D d nModel_tryFrom [.ref 39, .int 0] (upS (upS (upS F1 114 (-1)) 115 a0) 116 0) G1 (fun F2 G2 => (((F2 116 0) = 0 → AWi D (d + 1) nModel_cast 51 [(0, .ref 39), (1, .int a0), (2, .int 0)] [] (upS F2 113 1) G2 Q) ∧ (¬ ((F2 116 0) = 0) → Q (-1000000004) F2 G2)))) ∧ (x1_ = 0 → Q (-1000000001) F1 G1)))) : AMi D (d + 1) nModel_cast [.ref 39, .int a0] F G Q := by
  refine AM_intro (by decide) (Nat.le_of_ble_eq_true rfl) ?_
  intro X CX
  refine gw_iload_n CX.1 1 rfl dModel_cast_0 rfl ?_
  refine gw_iconst (v := 1) CX.1 dModel_cast_1 (by decide) ?_
  refine gw_sipush (v := 30000) CX.1 dModel_cast_2 (by decide) ?_
  refine cl_Model_isIn CX (Nat.le_of_ble_eq_true rfl) wm_Model_78 dModel_cast_5 H (fun x1_ F1 G1 H => ?_)
  refine gw_if_ne (tgt := 14) CX.1 dModel_cast_8 (by decide) (fun c => ?_) (fun c => ?_)
  · replace H := H.1 c
    refine gw_aload_n CX.1 0 rfl dModel_cast_14 rfl ?_
    refine gw_iconst (v := (-1)) CX.1 dModel_cast_15 (by decide) ?_
    refine gp_Model_165 CX.1 rfl dModel_cast_16 ?_
    refine gw_aload_n CX.1 0 rfl dModel_cast_19 rfl ?_
    refine gw_iload_n CX.1 1 rfl dModel_cast_20 rfl ?_
    refine gp_Model_174 CX.1 rfl dModel_cast_21 ?_
    refine gw_aload_n CX.1 0 rfl dModel_cast_24 rfl ?_
    refine gw_iconst (v := 0) CX.1 dModel_cast_25 (by decide) ?_
    refine gp_Model_168 CX.1 rfl (by decide) dModel_cast_26 ?_
    refine gw_aload_n CX.1 0 rfl dModel_cast_29 rfl ?_
    refine gw_iconst (v := 0) CX.1 dModel_cast_30 (by decide) ?_
    refine cl_Model_tryFrom CX (Nat.le_of_ble_eq_true rfl) wm_Model_177 dModel_cast_31 H (fun F2 G2 H => ?_)
    refine gw_aload_n CX.1 0 rfl dModel_cast_34 rfl ?_
    refine gg_Model_168 CX.1 rfl dModel_cast_35 ?_
    refine gw_if_eq (tgt := 44) CX.1 dModel_cast_38 (by decide) (fun c => ?_) (fun c => ?_)
    · replace H := H.1 c
      refine gw_aload_n CX.1 0 rfl dModel_cast_44 rfl ?_
      refine gw_iconst (v := 1) CX.1 dModel_cast_45 (by decide) ?_
      refine gp_Model_128 CX.1 rfl (by decide) dModel_cast_46 ?_
      refine gw_iconst (v := 0) CX.1 dModel_cast_49 (by decide) ?_
      refine gw_istore_n CX.1 dModel_cast_50 rfl (by decide) rfl ?_
      exact gw_sub [1, 2, 0] rfl (H X CX)
    · replace H := H.2 c
      refine gw_ldc CX.1 wc_Model_181 dModel_cast_41 ?_
      exact gw_iret CX rfl rfl ⟨_, _, _, rfl, rfl, H⟩ (Nat.zero_le _) (Nat.zero_le _) dModel_cast_43
  · replace H := H.2 c
    refine gw_ldc CX.1 wc_Model_85 dModel_cast_11 ?_
    exact gw_iret CX rfl rfl ⟨_, _, _, rfl, rfl, H⟩ (Nat.zero_le _) (Nat.zero_le _) dModel_cast_13
theorem bModel_tryFrom_134 {D : va_G} {d : Nat} {Q : (Nat → Nat → Int32) → (Nat → Int64) → Prop} {F : Nat → Nat → Int32} {G : Nat → Int64} {x1 : Int32} {x2 : Int32} (H : ((¬ (F 116 0) = 0 → Q F G) ∧ ((F 116 0) = 0 → vp_in x1 8 ∧ AMv D d nModel_tryFrom [.ref 39, .int (x1 + 1)] (up F 55 (x1.toNatClampNeg) (-1)) G (fun F1 G1 => Q F1 G1)))) : AWv D (d + 1) nModel_tryFrom 134 [(0, .ref 39), (1, .int x1), (2, .int x2)] [] F G Q := by
  intro X CX
  refine gw_aload_n CX.1 0 rfl dModel_tryFrom_134 rfl ?_
  refine gg_Model_168 CX.1 rfl dModel_tryFrom_135 ?_
  refine gw_if_ne (tgt := 155) CX.1 dModel_tryFrom_138 (by decide) (fun c => ?_) (fun c => ?_)
  · replace H := H.1 c
    exact gw_vret CX rfl ⟨_, _, rfl, rfl, H⟩ (Nat.zero_le _) (Nat.zero_le _) dModel_tryFrom_155
  · replace H := H.2 c
    refine gw_aload_n CX.1 0 rfl dModel_tryFrom_141 rfl ?_
    refine gg_Model_58 CX.1 rfl dModel_tryFrom_142 ?_
    refine gw_iload_n CX.1 1 rfl dModel_tryFrom_145 rfl ?_
    refine gw_iconst (v := (-1)) CX.1 dModel_tryFrom_146 (by decide) ?_
    obtain ⟨hin, H⟩ := H
    refine gs_55 CX.1 hin dModel_tryFrom_147 ?_
    refine gw_aload_n CX.1 0 rfl dModel_tryFrom_148 rfl ?_
    refine gw_iload_n CX.1 1 rfl dModel_tryFrom_149 rfl ?_
    refine gw_iconst (v := 1) CX.1 dModel_tryFrom_150 (by decide) ?_
    refine gw_iadd CX.1 dModel_tryFrom_151 ?_
    refine cl_Model_tryFrom CX (Nat.le_of_ble_eq_true rfl) wm_Model_177 dModel_tryFrom_152 H (fun F1 G1 H => ?_)
    exact gw_vret CX rfl ⟨_, _, rfl, rfl, H⟩ (Nat.zero_le _) (Nat.zero_le _) dModel_tryFrom_155
theorem bModel_tryFrom_35 {D : va_G} {d : Nat} {Q : (Nat → Nat → Int32) → (Nat → Int64) → Prop} {F : Nat → Nat → Int32} {G : Nat → Int64} {x1 : Int32} {x2 : Int32} {x3 : Int32} (H : (((F 110 0) ≤ x3 → Q F G) ∧ (¬ ((F 110 0) ≤ x3) → vp_in x3 8 ∧ vp_in x3 8 ∧ AWv D (d + 1) nModel_tryFrom 35 [(0, .ref 39), (1, .int x1), (2, .int x2), (3, .int (x3 + 1))] [] (up F 56 (x3.toNatClampNeg) (F 55 x3.toNatClampNeg)) G Q))) : AWv D (d + 1) nModel_tryFrom 35 [(0, .ref 39), (1, .int x1), (2, .int x2), (3, .int x3)] [] F G Q := by
  intro X CX
  refine gw_iload_n CX.1 3 rfl dModel_tryFrom_35 rfl ?_
  refine gw_aload_n CX.1 0 rfl dModel_tryFrom_36 rfl ?_
  refine gg_Model_74 CX.1 rfl dModel_tryFrom_37 ?_
  refine gw_icmp_ge (tgt := 61) CX.1 dModel_tryFrom_40 (by decide) (fun c => ?_) (fun c => ?_)
  · replace H := H.1 c
    exact gw_vret CX rfl ⟨_, _, rfl, rfl, H⟩ (Nat.zero_le _) (Nat.zero_le _) dModel_tryFrom_61
  · replace H := H.2 c
    refine gw_aload_n CX.1 0 rfl dModel_tryFrom_43 rfl ?_
    refine gg_Model_61 CX.1 rfl dModel_tryFrom_44 ?_
    refine gw_iload_n CX.1 3 rfl dModel_tryFrom_47 rfl ?_
    refine gw_aload_n CX.1 0 rfl dModel_tryFrom_48 rfl ?_
    refine gg_Model_58 CX.1 rfl dModel_tryFrom_49 ?_
    refine gw_iload_n CX.1 3 rfl dModel_tryFrom_52 rfl ?_
    obtain ⟨hin, H⟩ := H
    refine ga_55 CX.1 hin dModel_tryFrom_53 ?_
    obtain ⟨hin, H⟩ := H
    refine gs_56 CX.1 hin dModel_tryFrom_54 ?_
    refine gw_iinc (v := (x3 + 1)) CX.1 3 rfl dModel_tryFrom_55 rfl (by decide) rfl ?_
    refine gw_goto (tgt := 35) CX.1 dModel_tryFrom_58 (by decide) ?_
    exact gw_sub [1, 2, 3, 0] rfl (H X CX)
theorem bModel_tryFrom_64 {D : va_G} {d : Nat} {Q : (Nat → Nat → Int32) → (Nat → Int64) → Prop} {F : Nat → Nat → Int32} {G : Nat → Int64} {x1 : Int32} {x2 : Int32} (H : (((F 111 0) ≤ x2 → AWv D (d + 1) nModel_tryFrom 134 [(0, .ref 39), (1, .int x1), (2, .int x2)] [] F G Q) ∧ (¬ ((F 111 0) ≤ x2) → ((¬ (F 116 0) = 0 → AWv D (d + 1) nModel_tryFrom 134 [(0, .ref 39), (1, .int x1), (2, .int x2)] [] F G Q) ∧ ((F 116 0) = 0 → AMi D d nModel_fits [.ref 39, .int x2, .int x1] F G (fun x1_ F1 G1 => ((¬ x1_ = 0 → ((¬ (F1 115 0) = 0 → vp_in x1 8 ∧ AMv D d nModel_tryFrom [.ref 39, .int (x1 + 1)] (up (upS F1 115 ((F1 115 0) - 1)) 55 (x1.toNatClampNeg) x2) G1 (fun F2 G2 => AWv D (d + 1) nModel_tryFrom 64 [(0, .ref 39), (1, .int x1), (2, .int (x2 + 1))] [] F2 G2 Q)) ∧ ((F1 115 0) = 0 → Q (upS F1 116 1) G1))) ∧ (x1_ = 0 → AWv D (d + 1) nModel_tryFrom 64 [(0, .ref 39), (1, .int x1), (2, .int (x2 + 1))] [] F1 G1 Q)))))))) : AWv D (d + 1) nModel_tryFrom 64 [(0, .ref 39), (1, .int x1), (2, .int x2)] [] F G Q := by
  intro X CX
  refine gw_iload_n CX.1 2 rfl dModel_tryFrom_64 rfl ?_
  refine gw_aload_n CX.1 0 rfl dModel_tryFrom_65 rfl ?_
  refine gg_Model_82 CX.1 rfl dModel_tryFrom_66 ?_
  refine gw_icmp_ge (tgt := 134) CX.1 dModel_tryFrom_69 (by decide) (fun c => ?_) (fun c => ?_)
  · replace H := H.1 c
    exact H X CX
  · replace H := H.2 c
    refine gw_aload_n CX.1 0 rfl dModel_tryFrom_72 rfl ?_
    refine gg_Model_168 CX.1 rfl dModel_tryFrom_73 ?_
    refine gw_if_ne (tgt := 134) CX.1 dModel_tryFrom_76 (by decide) (fun c => ?_) (fun c => ?_)
    · replace H := H.1 c
      exact H X CX
    · replace H := H.2 c
      refine gw_aload_n CX.1 0 rfl dModel_tryFrom_79 rfl ?_
      refine gw_iload_n CX.1 2 rfl dModel_tryFrom_80 rfl ?_
      refine gw_iload_n CX.1 1 rfl dModel_tryFrom_81 rfl ?_
      refine cl_Model_fits CX (Nat.le_of_ble_eq_true rfl) wm_Model_171 dModel_tryFrom_82 H (fun x1_ F1 G1 H => ?_)
      refine gw_if_ne (tgt := 91) CX.1 dModel_tryFrom_85 (by decide) (fun c => ?_) (fun c => ?_)
      · replace H := H.1 c
        refine gw_aload_n CX.1 0 rfl dModel_tryFrom_91 rfl ?_
        refine gg_Model_174 CX.1 rfl dModel_tryFrom_92 ?_
        refine gw_if_ne (tgt := 104) CX.1 dModel_tryFrom_95 (by decide) (fun c => ?_) (fun c => ?_)
        · replace H := H.1 c
          refine gw_aload_n CX.1 0 rfl dModel_tryFrom_104 rfl ?_
          refine gw_dup CX.1 dModel_tryFrom_105 rfl ?_
          refine gg_Model_174 CX.1 rfl dModel_tryFrom_106 ?_
          refine gw_iconst (v := 1) CX.1 dModel_tryFrom_109 (by decide) ?_
          refine gw_isub CX.1 dModel_tryFrom_110 ?_
          refine gp_Model_174 CX.1 rfl dModel_tryFrom_111 ?_
          refine gw_aload_n CX.1 0 rfl dModel_tryFrom_114 rfl ?_
          refine gg_Model_58 CX.1 rfl dModel_tryFrom_115 ?_
          refine gw_iload_n CX.1 1 rfl dModel_tryFrom_118 rfl ?_
          refine gw_iload_n CX.1 2 rfl dModel_tryFrom_119 rfl ?_
          obtain ⟨hin, H⟩ := H
          refine gs_55 CX.1 hin dModel_tryFrom_120 ?_
          refine gw_aload_n CX.1 0 rfl dModel_tryFrom_121 rfl ?_
          refine gw_iload_n CX.1 1 rfl dModel_tryFrom_122 rfl ?_
          refine gw_iconst (v := 1) CX.1 dModel_tryFrom_123 (by decide) ?_
          refine gw_iadd CX.1 dModel_tryFrom_124 ?_
          refine cl_Model_tryFrom CX (Nat.le_of_ble_eq_true rfl) wm_Model_177 dModel_tryFrom_125 H (fun F2 G2 H => ?_)
          refine gw_iinc (v := (x2 + 1)) CX.1 2 rfl dModel_tryFrom_128 rfl (by decide) rfl ?_
          refine gw_goto (tgt := 64) CX.1 dModel_tryFrom_131 (by decide) ?_
          exact gw_sub [1, 2, 0] rfl (H X CX)
        · replace H := H.2 c
          refine gw_aload_n CX.1 0 rfl dModel_tryFrom_98 rfl ?_
          refine gw_iconst (v := 1) CX.1 dModel_tryFrom_99 (by decide) ?_
          refine gp_Model_168 CX.1 rfl (by decide) dModel_tryFrom_100 ?_
          exact gw_vret CX rfl ⟨_, _, rfl, rfl, H⟩ (Nat.zero_le _) (Nat.zero_le _) dModel_tryFrom_103
      · replace H := H.2 c
        refine gw_goto (tgt := 128) CX.1 dModel_tryFrom_88 (by decide) ?_
        refine gw_iinc (v := (x2 + 1)) CX.1 2 rfl dModel_tryFrom_128 rfl (by decide) rfl ?_
        refine gw_goto (tgt := 64) CX.1 dModel_tryFrom_131 (by decide) ?_
        exact gw_sub [1, 2, 0] rfl (H X CX)
theorem eModel_tryFrom {D : va_G} {d : Nat} {Q : (Nat → Nat → Int32) → (Nat → Int64) → Prop} {F : Nat → Nat → Int32} {G : Nat → Int64} {a0 : Int32} (H : ((¬ a0 = (F 110 0) → AWv D (d + 1) nModel_tryFrom 64 [(0, .ref 39), (1, .int a0), (2, .int 0)] [] F G Q) ∧ (a0 = (F 110 0) → AMi D d nModel_loss [.ref 39] F G (fun x1_ F1 G1 => (((F1 114 0) < 0 → AWv D (d + 1) nModel_tryFrom 35 [(0, .ref 39), (1, .int a0), (2, .int x1_), (3, .int 0)] [] (upS F1 114 x1_) G1 Q) ∧ (¬ ((F1 114 0) < 0) → (((F1 114 0) ≤ x1_ → Q F1 G1) ∧ (¬ ((F1 114 0) ≤ x1_) → AWv D (d + 1) nModel_tryFrom 35 [(0, .ref 39), (1, .int a0), (2, .int x1_), (3, .int 0)] [] (upS F1 114 x1_) G1 Q)))))))) : AMv D (d + 1) nModel_tryFrom [.ref 39, .int a0] F G Q := by
  refine AM_intro (by decide) (Nat.le_of_ble_eq_true rfl) ?_
  intro X CX
  refine gw_iload_n CX.1 1 rfl dModel_tryFrom_0 rfl ?_
  refine gw_aload_n CX.1 0 rfl dModel_tryFrom_1 rfl ?_
  refine gg_Model_74 CX.1 rfl dModel_tryFrom_2 ?_
  refine gw_icmp_ne (tgt := 62) CX.1 dModel_tryFrom_5 (by decide) (fun c => ?_) (fun c => ?_)
  · replace H := H.1 c
    refine gw_iconst (v := 0) CX.1 dModel_tryFrom_62 (by decide) ?_
    refine gw_istore_n CX.1 dModel_tryFrom_63 rfl (by decide) rfl ?_
    exact gw_sub [1, 2, 0] rfl (H X CX)
  · replace H := H.2 c
    refine gw_aload_n CX.1 0 rfl dModel_tryFrom_8 rfl ?_
    refine cl_Model_loss CX (Nat.le_of_ble_eq_true rfl) wm_Model_161 dModel_tryFrom_9 H (fun x1_ F1 G1 H => ?_)
    refine gw_istore_n CX.1 dModel_tryFrom_12 rfl (by decide) rfl ?_
    refine gw_aload_n CX.1 1 rfl dModel_tryFrom_13 rfl ?_
    refine gg_Model_165 CX.1 rfl dModel_tryFrom_14 ?_
    refine gw_if_lt (tgt := 28) CX.1 dModel_tryFrom_17 (by decide) (fun c => ?_) (fun c => ?_)
    · replace H := H.1 c
      refine gw_aload_n CX.1 1 rfl dModel_tryFrom_28 rfl ?_
      refine gw_iload_n CX.1 0 rfl dModel_tryFrom_29 rfl ?_
      refine gp_Model_165 CX.1 rfl dModel_tryFrom_30 ?_
      refine gw_iconst (v := 0) CX.1 dModel_tryFrom_33 (by decide) ?_
      refine gw_istore_n CX.1 dModel_tryFrom_34 rfl (by decide) rfl ?_
      exact gw_sub [2, 3, 1, 0] rfl (H X CX)
    · replace H := H.2 c
      refine gw_iload_n CX.1 0 rfl dModel_tryFrom_20 rfl ?_
      refine gw_aload_n CX.1 1 rfl dModel_tryFrom_21 rfl ?_
      refine gg_Model_165 CX.1 rfl dModel_tryFrom_22 ?_
      refine gw_icmp_ge (tgt := 61) CX.1 dModel_tryFrom_25 (by decide) (fun c => ?_) (fun c => ?_)
      · replace H := H.1 c
        exact gw_vret CX rfl ⟨_, _, rfl, rfl, H⟩ (Nat.zero_le _) (Nat.zero_le _) dModel_tryFrom_61
      · replace H := H.2 c
        refine gw_aload_n CX.1 1 rfl dModel_tryFrom_28 rfl ?_
        refine gw_iload_n CX.1 0 rfl dModel_tryFrom_29 rfl ?_
        refine gp_Model_165 CX.1 rfl dModel_tryFrom_30 ?_
        refine gw_iconst (v := 0) CX.1 dModel_tryFrom_33 (by decide) ?_
        refine gw_istore_n CX.1 dModel_tryFrom_34 rfl (by decide) rfl ?_
        exact gw_sub [2, 3, 1, 0] rfl (H X CX)
theorem bModel_loss_28 {D : va_G} {d : Nat} {Q : Int32 → (Nat → Nat → Int32) → (Nat → Int64) → Prop} {F : Nat → Nat → Int32} {G : Nat → Int64} {x1 : Int32} {x2 : Int32} (H : ((30 ≤ x2 → Q x1 F G) ∧ (¬ (30 ≤ x2) → vp_in x2 30 ∧ (((F 42 x2.toNatClampNeg) < 0 → AWi D (d + 1) nModel_loss 28 [(0, .ref 39), (1, .int (x1 + 0)), (2, .int (x2 + 1))] [] F G Q) ∧ (¬ ((F 42 x2.toNatClampNeg) < 0) → AMi D d nModel_isDone [.ref 39, .int x2, .ref 56] F G (fun x1_ F1 G1 => ((¬ x1_ = 0 → AWi D (d + 1) nModel_loss 28 [(0, .ref 39), (1, .int (x1 + 0)), (2, .int (x2 + 1))] [] F1 G1 Q) ∧ (x1_ = 0 → AWi D (d + 1) nModel_loss 28 [(0, .ref 39), (1, .int (x1 + 6)), (2, .int (x2 + 1))] [] F1 G1 Q)))))))) : AWi D (d + 1) nModel_loss 28 [(0, .ref 39), (1, .int x1), (2, .int x2)] [] F G Q := by
  intro X CX
  refine gw_iload_n CX.1 2 rfl dModel_loss_28 rfl ?_
  refine gw_bipush (v := 30) CX.1 dModel_loss_29 (by decide) ?_
  refine gw_icmp_ge (tgt := 70) CX.1 dModel_loss_31 (by decide) (fun c => ?_) (fun c => ?_)
  · replace H := H.1 c
    refine gw_iload_n CX.1 1 rfl dModel_loss_70 rfl ?_
    exact gw_iret CX rfl rfl ⟨_, _, _, rfl, rfl, H⟩ (Nat.zero_le _) (Nat.zero_le _) dModel_loss_71
  · replace H := H.2 c
    refine gw_iload_n CX.1 1 rfl dModel_loss_34 rfl ?_
    refine gw_aload_n CX.1 0 rfl dModel_loss_35 rfl ?_
    refine gg_Model_19 CX.1 rfl dModel_loss_36 ?_
    refine gw_iload_n CX.1 2 rfl dModel_loss_39 rfl ?_
    obtain ⟨hin, H⟩ := H
    refine ga_42 CX.1 hin dModel_loss_40 ?_
    refine gw_if_lt (tgt := 61) CX.1 dModel_loss_41 (by decide) (fun c => ?_) (fun c => ?_)
    · replace H := H.1 c
      refine gw_iconst (v := 0) CX.1 dModel_loss_61 (by decide) ?_
      refine gw_iadd CX.1 dModel_loss_62 ?_
      refine gw_istore_n CX.1 dModel_loss_63 rfl (by decide) rfl ?_
      refine gw_iinc (v := (x2 + 1)) CX.1 2 rfl dModel_loss_64 rfl (by decide) rfl ?_
      refine gw_goto (tgt := 28) CX.1 dModel_loss_67 (by decide) ?_
      exact gw_sub [2, 1, 0] rfl (H X CX)
    · replace H := H.2 c
      refine gw_aload_n CX.1 0 rfl dModel_loss_44 rfl ?_
      refine gw_iload_n CX.1 2 rfl dModel_loss_45 rfl ?_
      refine gw_aload_n CX.1 0 rfl dModel_loss_46 rfl ?_
      refine gg_Model_58 CX.1 rfl dModel_loss_47 ?_
      refine cl_Model_isDone_0 CX (Nat.le_of_ble_eq_true rfl) wm_Model_157 dModel_loss_50 H (fun x1_ F1 G1 H => ?_)
      refine gw_if_ne (tgt := 61) CX.1 dModel_loss_53 (by decide) (fun c => ?_) (fun c => ?_)
      · replace H := H.1 c
        refine gw_iconst (v := 0) CX.1 dModel_loss_61 (by decide) ?_
        refine gw_iadd CX.1 dModel_loss_62 ?_
        refine gw_istore_n CX.1 dModel_loss_63 rfl (by decide) rfl ?_
        refine gw_iinc (v := (x2 + 1)) CX.1 2 rfl dModel_loss_64 rfl (by decide) rfl ?_
        refine gw_goto (tgt := 28) CX.1 dModel_loss_67 (by decide) ?_
        exact gw_sub [2, 1, 0] rfl (H X CX)
      · replace H := H.2 c
        refine gw_bipush (v := 6) CX.1 dModel_loss_56 (by decide) ?_
        refine gw_goto (tgt := 62) CX.1 dModel_loss_58 (by decide) ?_
        refine gw_iadd CX.1 dModel_loss_62 ?_
        refine gw_istore_n CX.1 dModel_loss_63 rfl (by decide) rfl ?_
        refine gw_iinc (v := (x2 + 1)) CX.1 2 rfl dModel_loss_64 rfl (by decide) rfl ?_
        refine gw_goto (tgt := 28) CX.1 dModel_loss_67 (by decide) ?_
        exact gw_sub [2, 1, 0] rfl (H X CX)
theorem bModel_loss_4 {D : va_G} {d : Nat} {Q : Int32 → (Nat → Nat → Int32) → (Nat → Int64) → Prop} {F : Nat → Nat → Int32} {G : Nat → Int64} {x1 : Int32} {x2 : Int32} (H : (((F 110 0) ≤ x2 → AWi D (d + 1) nModel_loss 28 [(0, .ref 39), (1, .int x1), (2, .int 0)] [] F G Q) ∧ (¬ ((F 110 0) ≤ x2) → AMi D d nModel_lossOf [.ref 39, .int x2] F G (fun x1_ F1 G1 => AWi D (d + 1) nModel_loss 4 [(0, .ref 39), (1, .int (x1 + x1_)), (2, .int (x2 + 1))] [] F1 G1 Q)))) : AWi D (d + 1) nModel_loss 4 [(0, .ref 39), (1, .int x1), (2, .int x2)] [] F G Q := by
  intro X CX
  refine gw_iload_n CX.1 2 rfl dModel_loss_4 rfl ?_
  refine gw_aload_n CX.1 0 rfl dModel_loss_5 rfl ?_
  refine gg_Model_74 CX.1 rfl dModel_loss_6 ?_
  refine gw_icmp_ge (tgt := 26) CX.1 dModel_loss_9 (by decide) (fun c => ?_) (fun c => ?_)
  · replace H := H.1 c
    refine gw_iconst (v := 0) CX.1 dModel_loss_26 (by decide) ?_
    refine gw_istore_n CX.1 dModel_loss_27 rfl (by decide) rfl ?_
    exact gw_sub [1, 2, 0] rfl (H X CX)
  · replace H := H.2 c
    refine gw_iload_n CX.1 1 rfl dModel_loss_12 rfl ?_
    refine gw_aload_n CX.1 0 rfl dModel_loss_13 rfl ?_
    refine gw_iload_n CX.1 2 rfl dModel_loss_14 rfl ?_
    refine cl_Model_lossOf CX (Nat.le_of_ble_eq_true rfl) wm_Model_154 dModel_loss_15 H (fun x1_ F1 G1 H => ?_)
    refine gw_iadd CX.1 dModel_loss_18 ?_
    refine gw_istore_n CX.1 dModel_loss_19 rfl (by decide) rfl ?_
    refine gw_iinc (v := (x2 + 1)) CX.1 2 rfl dModel_loss_20 rfl (by decide) rfl ?_
    refine gw_goto (tgt := 4) CX.1 dModel_loss_23 (by decide) ?_
    exact gw_sub [2, 1, 0] rfl (H X CX)
theorem eModel_loss {D : va_G} {d : Nat} {Q : Int32 → (Nat → Nat → Int32) → (Nat → Int64) → Prop} {F : Nat → Nat → Int32} {G : Nat → Int64} (H : AWi D (d + 1) nModel_loss 4 [(0, .ref 39), (1, .int 0), (2, .int 0)] [] F G Q) : AMi D (d + 1) nModel_loss [.ref 39] F G Q := by
  refine AM_intro (by decide) (Nat.le_of_ble_eq_true rfl) ?_
  intro X CX
  refine gw_iconst (v := 0) CX.1 dModel_loss_0 (by decide) ?_
  refine gw_istore_n CX.1 dModel_loss_1 rfl (by decide) rfl ?_
  refine gw_iconst (v := 0) CX.1 dModel_loss_2 (by decide) ?_
  refine gw_istore_n CX.1 dModel_loss_3 rfl (by decide) rfl ?_
  exact gw_sub [2, 1, 0] rfl (H X CX)
theorem bModel_lossOf_135 {D : va_G} {d : Nat} {Q : Int32 → (Nat → Nat → Int32) → (Nat → Int64) → Prop} {F : Nat → Nat → Int32} {G : Nat → Int64} {x1 : Int32} {x2 : Int32} {x3 : Int32} {x4 : Int32} {s0 : Int32} (H : AMi D d nModel_isFresh [.ref 39, .int x2, .int x1] F G (fun x1_ F1 G1 => ((x1_ = 0 → Q ((x3 + s0) + 3) F1 G1) ∧ (¬ (x1_ = 0) → Q ((x3 + s0) + 0) F1 G1)))) : AWi D (d + 1) nModel_lossOf 135 [(0, .ref 39), (1, .int x1), (2, .int x2), (3, .int x3), (4, .int x4)] [.int s0] F G Q := by
  intro X CX
  refine gw_istore CX.1 dModel_lossOf_135 (by decide) rfl ?_
  refine gw_iload_n CX.1 4 rfl dModel_lossOf_137 rfl ?_
  refine gw_iload CX.1 0 rfl dModel_lossOf_138 ?_
  refine gw_iadd CX.1 dModel_lossOf_140 ?_
  refine gw_aload_n CX.1 1 rfl dModel_lossOf_141 rfl ?_
  refine gw_iload_n CX.1 3 rfl dModel_lossOf_142 rfl ?_
  refine gw_iload_n CX.1 2 rfl dModel_lossOf_143 rfl ?_
  refine cl_Model_isFresh CX (Nat.le_of_ble_eq_true rfl) wm_Model_125 dModel_lossOf_144 H (fun x1_ F1 G1 H => ?_)
  refine gw_if_eq (tgt := 154) CX.1 dModel_lossOf_147 (by decide) (fun c => ?_) (fun c => ?_)
  · replace H := H.1 c
    refine gw_iconst (v := 3) CX.1 dModel_lossOf_154 (by decide) ?_
    refine gw_iadd CX.1 dModel_lossOf_155 ?_
    exact gw_iret CX rfl rfl ⟨_, _, _, rfl, rfl, H⟩ (Nat.zero_le _) (Nat.zero_le _) dModel_lossOf_156
  · replace H := H.2 c
    refine gw_iconst (v := 0) CX.1 dModel_lossOf_150 (by decide) ?_
    refine gw_goto (tgt := 155) CX.1 dModel_lossOf_151 (by decide) ?_
    refine gw_iadd CX.1 dModel_lossOf_155 ?_
    exact gw_iret CX rfl rfl ⟨_, _, _, rfl, rfl, H⟩ (Nat.zero_le _) (Nat.zero_le _) dModel_lossOf_156
theorem bModel_lossOf_17 {D : va_G} {d : Nat} {Q : Int32 → (Nat → Nat → Int32) → (Nat → Int64) → Prop} {F : Nat → Nat → Int32} {G : Nat → Int64} {x1 : Int32} {x2 : Int32} {x3 : Int32} {x4 : Int32} (H : ((30 ≤ x4 → Q x3 F G) ∧ (¬ (30 ≤ x4) → AMi D d nModel_is [.ref 39, .int x1, .int x4] F G (fun x1_ F1 G1 => ((x1_ = 0 → AWi D (d + 1) nModel_lossOf 17 [(0, .ref 39), (1, .int x1), (2, .int x2), (3, .int (x3 + 0)), (4, .int (x4 + 1))] [] F1 G1 Q) ∧ (¬ (x1_ = 0) → vp_in ((30 * x1) + x4) 240 ∧ AWi D (d + 1) nModel_lossOf 17 [(0, .ref 39), (1, .int x1), (2, .int x2), (3, .int (x3 + (10 * (F1 41 ((30 * x1) + x4).toNatClampNeg)))), (4, .int (x4 + 1))] [] F1 G1 Q)))))) : AWi D (d + 1) nModel_lossOf 17 [(0, .ref 39), (1, .int x1), (2, .int x2), (3, .int x3), (4, .int x4)] [] F G Q := by
  intro X CX
  refine gw_iload CX.1 4 rfl dModel_lossOf_17 ?_
  refine gw_bipush (v := 30) CX.1 dModel_lossOf_19 (by decide) ?_
  refine gw_icmp_ge (tgt := 62) CX.1 dModel_lossOf_21 (by decide) (fun c => ?_) (fun c => ?_)
  · replace H := H.1 c
    refine gw_iload_n CX.1 3 rfl dModel_lossOf_62 rfl ?_
    exact gw_iret CX rfl rfl ⟨_, _, _, rfl, rfl, H⟩ (Nat.zero_le _) (Nat.zero_le _) dModel_lossOf_63
  · replace H := H.2 c
    refine gw_iload_n CX.1 3 rfl dModel_lossOf_24 rfl ?_
    refine gw_aload_n CX.1 0 rfl dModel_lossOf_25 rfl ?_
    refine gw_iload_n CX.1 1 rfl dModel_lossOf_26 rfl ?_
    refine gw_iload CX.1 4 rfl dModel_lossOf_27 ?_
    refine cl_Model_is CX (Nat.le_of_ble_eq_true rfl) wm_Model_99 dModel_lossOf_29 H (fun x1_ F1 G1 H => ?_)
    refine gw_if_eq (tgt := 53) CX.1 dModel_lossOf_32 (by decide) (fun c => ?_) (fun c => ?_)
    · replace H := H.1 c
      refine gw_iconst (v := 0) CX.1 dModel_lossOf_53 (by decide) ?_
      refine gw_iadd CX.1 dModel_lossOf_54 ?_
      refine gw_istore_n CX.1 dModel_lossOf_55 rfl (by decide) rfl ?_
      refine gw_iinc (v := (x4 + 1)) CX.1 4 rfl dModel_lossOf_56 rfl (by decide) rfl ?_
      refine gw_goto (tgt := 17) CX.1 dModel_lossOf_59 (by decide) ?_
      exact gw_sub [2, 3, 4, 1, 0] rfl (H X CX)
    · replace H := H.2 c
      refine gw_bipush (v := 10) CX.1 dModel_lossOf_35 (by decide) ?_
      refine gw_aload_n CX.1 0 rfl dModel_lossOf_37 rfl ?_
      refine gg_Model_16 CX.1 rfl dModel_lossOf_38 ?_
      refine gw_bipush (v := 30) CX.1 dModel_lossOf_41 (by decide) ?_
      refine gw_iload_n CX.1 1 rfl dModel_lossOf_43 rfl ?_
      refine gw_imul CX.1 dModel_lossOf_44 ?_
      refine gw_iload CX.1 4 rfl dModel_lossOf_45 ?_
      refine gw_iadd CX.1 dModel_lossOf_47 ?_
      obtain ⟨hin, H⟩ := H
      refine ga_41 CX.1 hin dModel_lossOf_48 ?_
      refine gw_imul CX.1 dModel_lossOf_49 ?_
      refine gw_goto (tgt := 54) CX.1 dModel_lossOf_50 (by decide) ?_
      refine gw_iadd CX.1 dModel_lossOf_54 ?_
      refine gw_istore_n CX.1 dModel_lossOf_55 rfl (by decide) rfl ?_
      refine gw_iinc (v := (x4 + 1)) CX.1 4 rfl dModel_lossOf_56 rfl (by decide) rfl ?_
      refine gw_goto (tgt := 17) CX.1 dModel_lossOf_59 (by decide) ?_
      exact gw_sub [2, 3, 4, 1, 0] rfl (H X CX)
theorem bModel_lossOf_69 {D : va_G} {d : Nat} {Q : Int32 → (Nat → Nat → Int32) → (Nat → Int64) → Prop} {F : Nat → Nat → Int32} {G : Nat → Int64} {x1 : Int32} {x2 : Int32} {x3 : Int32} {x4 : Int32} (H : ((x1 ≤ x4 → vp_in x2 10 ∧ ((¬ (F 46 x2.toNatClampNeg) = x1 → AMi D d nModel_owner [.ref 39, .int x1] F G (fun x1_ F1 G1 => ((0 ≤ x1_ → AMi D d nModel_isSwing [.ref 39, .int x2] F1 G1 (fun x2_ F2 G2 => ((x2_ = 0 → AWi D (d + 1) nModel_lossOf 135 [(0, .ref 39), (1, .int x1), (2, .int x2), (3, .int x3), (4, .int x4)] [.int 2] F2 G2 Q) ∧ (¬ (x2_ = 0) → AWi D (d + 1) nModel_lossOf 135 [(0, .ref 39), (1, .int x1), (2, .int x2), (3, .int x3), (4, .int x4)] [.int 1] F2 G2 Q)))) ∧ (¬ (0 ≤ x1_) → AWi D (d + 1) nModel_lossOf 135 [(0, .ref 39), (1, .int x1), (2, .int x2), (3, .int x3), (4, .int x4)] [.int 0] F1 G1 Q)))) ∧ ((F 46 x2.toNatClampNeg) = x1 → Q x3 F G))) ∧ (¬ (x1 ≤ x4) → vp_in x4 8 ∧ ((¬ (F 55 x4.toNatClampNeg) = x2 → AWi D (d + 1) nModel_lossOf 69 [(0, .ref 39), (1, .int x1), (2, .int x2), (3, .int x3), (4, .int (x4 + 1))] [] F G Q) ∧ ((F 55 x4.toNatClampNeg) = x2 → AWi D (d + 1) nModel_lossOf 69 [(0, .ref 39), (1, .int x1), (2, .int x2), (3, .int 4), (4, .int (x4 + 1))] [] F G Q))))) : AWi D (d + 1) nModel_lossOf 69 [(0, .ref 39), (1, .int x1), (2, .int x2), (3, .int x3), (4, .int x4)] [] F G Q := by
  intro X CX
  refine gw_iload CX.1 4 rfl dModel_lossOf_69 ?_
  refine gw_iload_n CX.1 1 rfl dModel_lossOf_71 rfl ?_
  refine gw_icmp_ge (tgt := 98) CX.1 dModel_lossOf_72 (by decide) (fun c => ?_) (fun c => ?_)
  · replace H := H.1 c
    refine gw_aload_n CX.1 0 rfl dModel_lossOf_98 rfl ?_
    refine gg_Model_31 CX.1 rfl dModel_lossOf_99 ?_
    refine gw_iload_n CX.1 2 rfl dModel_lossOf_102 rfl ?_
    obtain ⟨hin, H⟩ := H
    refine ga_46 CX.1 hin dModel_lossOf_103 ?_
    refine gw_iload_n CX.1 1 rfl dModel_lossOf_104 rfl ?_
    refine gw_icmp_ne (tgt := 110) CX.1 dModel_lossOf_105 (by decide) (fun c => ?_) (fun c => ?_)
    · replace H := H.1 c
      refine gw_aload_n CX.1 0 rfl dModel_lossOf_110 rfl ?_
      refine gw_iload_n CX.1 1 rfl dModel_lossOf_111 rfl ?_
      refine cl_Model_owner CX (Nat.le_of_ble_eq_true rfl) wm_Model_115 dModel_lossOf_112 H (fun x1_ F1 G1 H => ?_)
      refine gw_if_ge (tgt := 122) CX.1 dModel_lossOf_115 (by decide) (fun c => ?_) (fun c => ?_)
      · replace H := H.1 c
        refine gw_aload_n CX.1 0 rfl dModel_lossOf_122 rfl ?_
        refine gw_iload_n CX.1 2 rfl dModel_lossOf_123 rfl ?_
        refine cl_Model_isSwing CX (Nat.le_of_ble_eq_true rfl) wm_Model_112 dModel_lossOf_124 H (fun x2_ F2 G2 H => ?_)
        refine gw_if_eq (tgt := 134) CX.1 dModel_lossOf_127 (by decide) (fun c => ?_) (fun c => ?_)
        · replace H := H.1 c
          refine gw_iconst (v := 2) CX.1 dModel_lossOf_134 (by decide) ?_
          exact H X CX
        · replace H := H.2 c
          refine gw_iconst (v := 1) CX.1 dModel_lossOf_130 (by decide) ?_
          refine gw_goto (tgt := 135) CX.1 dModel_lossOf_131 (by decide) ?_
          exact H X CX
      · replace H := H.2 c
        refine gw_iconst (v := 0) CX.1 dModel_lossOf_118 (by decide) ?_
        refine gw_goto (tgt := 135) CX.1 dModel_lossOf_119 (by decide) ?_
        exact H X CX
    · replace H := H.2 c
      refine gw_iload_n CX.1 3 rfl dModel_lossOf_108 rfl ?_
      exact gw_iret CX rfl rfl ⟨_, _, _, rfl, rfl, H⟩ (Nat.zero_le _) (Nat.zero_le _) dModel_lossOf_109
  · replace H := H.2 c
    refine gw_aload_n CX.1 0 rfl dModel_lossOf_75 rfl ?_
    refine gg_Model_58 CX.1 rfl dModel_lossOf_76 ?_
    refine gw_iload CX.1 4 rfl dModel_lossOf_79 ?_
    obtain ⟨hin, H⟩ := H
    refine ga_55 CX.1 hin dModel_lossOf_81 ?_
    refine gw_iload_n CX.1 2 rfl dModel_lossOf_82 rfl ?_
    refine gw_icmp_ne (tgt := 90) CX.1 dModel_lossOf_83 (by decide) (fun c => ?_) (fun c => ?_)
    · replace H := H.1 c
      refine gw_iload_n CX.1 3 rfl dModel_lossOf_90 rfl ?_
      refine gw_istore_n CX.1 dModel_lossOf_91 rfl (by decide) rfl ?_
      refine gw_iinc (v := (x4 + 1)) CX.1 4 rfl dModel_lossOf_92 rfl (by decide) rfl ?_
      refine gw_goto (tgt := 69) CX.1 dModel_lossOf_95 (by decide) ?_
      exact gw_sub [2, 3, 4, 1, 0] rfl (H X CX)
    · replace H := H.2 c
      refine gw_iconst (v := 4) CX.1 dModel_lossOf_86 (by decide) ?_
      refine gw_goto (tgt := 91) CX.1 dModel_lossOf_87 (by decide) ?_
      refine gw_istore_n CX.1 dModel_lossOf_91 rfl (by decide) rfl ?_
      refine gw_iinc (v := (x4 + 1)) CX.1 4 rfl dModel_lossOf_92 rfl (by decide) rfl ?_
      refine gw_goto (tgt := 69) CX.1 dModel_lossOf_95 (by decide) ?_
      exact gw_sub [2, 3, 4, 1, 0] rfl (H X CX)
theorem eModel_lossOf {D : va_G} {d : Nat} {Q : Int32 → (Nat → Nat → Int32) → (Nat → Int64) → Prop} {F : Nat → Nat → Int32} {G : Nat → Int64} {a0 : Int32} (H : vp_in a0 8 ∧ ((0 ≤ (F 55 a0.toNatClampNeg) → AWi D (d + 1) nModel_lossOf 69 [(0, .ref 39), (1, .int a0), (2, .int (F 55 a0.toNatClampNeg)), (3, .int 0), (4, .int 0)] [] F G Q) ∧ (¬ (0 ≤ (F 55 a0.toNatClampNeg)) → AWi D (d + 1) nModel_lossOf 17 [(0, .ref 39), (1, .int a0), (2, .int (F 55 a0.toNatClampNeg)), (3, .int 20), (4, .int 0)] [] F G Q))) : AMi D (d + 1) nModel_lossOf [.ref 39, .int a0] F G Q := by
  refine AM_intro (by decide) (Nat.le_of_ble_eq_true rfl) ?_
  intro X CX
  refine gw_aload_n CX.1 0 rfl dModel_lossOf_0 rfl ?_
  refine gg_Model_58 CX.1 rfl dModel_lossOf_1 ?_
  refine gw_iload_n CX.1 1 rfl dModel_lossOf_4 rfl ?_
  obtain ⟨hin, H⟩ := H
  refine ga_55 CX.1 hin dModel_lossOf_5 ?_
  refine gw_istore_n CX.1 dModel_lossOf_6 rfl (by decide) rfl ?_
  refine gw_iload_n CX.1 0 rfl dModel_lossOf_7 rfl ?_
  refine gw_if_ge (tgt := 64) CX.1 dModel_lossOf_8 (by decide) (fun c => ?_) (fun c => ?_)
  · replace H := H.1 c
    refine gw_iconst (v := 0) CX.1 dModel_lossOf_64 (by decide) ?_
    refine gw_istore_n CX.1 dModel_lossOf_65 rfl (by decide) rfl ?_
    refine gw_iconst (v := 0) CX.1 dModel_lossOf_66 (by decide) ?_
    refine gw_istore CX.1 dModel_lossOf_67 (by decide) rfl ?_
    exact gw_sub [3, 4, 2, 1, 0] rfl (H X CX)
  · replace H := H.2 c
    refine gw_bipush (v := 20) CX.1 dModel_lossOf_11 (by decide) ?_
    refine gw_istore_n CX.1 dModel_lossOf_13 rfl (by decide) rfl ?_
    refine gw_iconst (v := 0) CX.1 dModel_lossOf_14 (by decide) ?_
    refine gw_istore CX.1 dModel_lossOf_15 (by decide) rfl ?_
    exact gw_sub [3, 4, 2, 1, 0] rfl (H X CX)
theorem bModel_isDone_0_61 {D : va_G} {d : Nat} {Q : Int32 → (Nat → Nat → Int32) → (Nat → Int64) → Prop} {F : Nat → Nat → Int32} {G : Nat → Int64} {x1 : Int32} {x3 : Int32} {x4 : Int32} (H : AMi D d nModel_isRehearsed [.ref 39, .int x3, .int x4] F G (fun x1_ F1 G1 => ((x1_ = 0 → Q 0 F1 G1) ∧ (¬ (x1_ = 0) → Q 1 F1 G1)))) : AWi D (d + 1) nModel_isDone 61 [(0, .ref 39), (1, .int x1), (2, .ref 56), (3, .int x3), (4, .int x4)] [] F G Q := by
  intro X CX
  refine gw_aload_n CX.1 0 rfl dModel_isDone_61 rfl ?_
  refine gw_iload_n CX.1 3 rfl dModel_isDone_62 rfl ?_
  refine gw_iload CX.1 4 rfl dModel_isDone_63 ?_
  refine cl_Model_isRehearsed CX (Nat.le_of_ble_eq_true rfl) wm_Model_151 dModel_isDone_65 H (fun x1_ F1 G1 H => ?_)
  refine gw_if_eq (tgt := 75) CX.1 dModel_isDone_68 (by decide) (fun c => ?_) (fun c => ?_)
  · replace H := H.1 c
    refine gw_iconst (v := 0) CX.1 dModel_isDone_75 (by decide) ?_
    exact gw_iret CX rfl (by decide) ⟨_, _, _, rfl, rfl, H⟩ (Nat.zero_le _) (Nat.zero_le _) dModel_isDone_76
  · replace H := H.2 c
    refine gw_iconst (v := 1) CX.1 dModel_isDone_71 (by decide) ?_
    refine gw_goto (tgt := 76) CX.1 dModel_isDone_72 (by decide) ?_
    exact gw_iret CX rfl (by decide) ⟨_, _, _, rfl, rfl, H⟩ (Nat.zero_le _) (Nat.zero_le _) dModel_isDone_76
theorem eModel_isDone_0 {D : va_G} {d : Nat} {Q : Int32 → (Nat → Nat → Int32) → (Nat → Int64) → Prop} {F : Nat → Nat → Int32} {G : Nat → Int64} {a0 : Int32} (H : vp_in a0 30 ∧ vp_in (F 42 a0.toNatClampNeg) 8 ∧ vp_in a0 30 ∧ vp_in (F 43 a0.toNatClampNeg) 8 ∧ (((F 55 (F 42 a0.toNatClampNeg).toNatClampNeg) < 0 → Q 0 F G) ∧ (¬ ((F 55 (F 42 a0.toNatClampNeg).toNatClampNeg) < 0) → ((0 ≤ (F 55 (F 43 a0.toNatClampNeg).toNatClampNeg) → vp_in (F 55 (F 42 a0.toNatClampNeg).toNatClampNeg) 10 ∧ vp_in a0 30 ∧ ((¬ (F 46 (F 55 (F 42 a0.toNatClampNeg).toNatClampNeg).toNatClampNeg) = (F 42 a0.toNatClampNeg) → AWi D (d + 1) nModel_isDone 61 [(0, .ref 39), (1, .int a0), (2, .ref 56), (3, .int (F 55 (F 42 a0.toNatClampNeg).toNatClampNeg)), (4, .int (F 55 (F 43 a0.toNatClampNeg).toNatClampNeg))] [] F G Q) ∧ ((F 46 (F 55 (F 42 a0.toNatClampNeg).toNatClampNeg).toNatClampNeg) = (F 42 a0.toNatClampNeg) → vp_in (F 55 (F 43 a0.toNatClampNeg).toNatClampNeg) 10 ∧ vp_in a0 30 ∧ (((F 46 (F 55 (F 43 a0.toNatClampNeg).toNatClampNeg).toNatClampNeg) = (F 43 a0.toNatClampNeg) → Q 1 F G) ∧ (¬ ((F 46 (F 55 (F 43 a0.toNatClampNeg).toNatClampNeg).toNatClampNeg) = (F 43 a0.toNatClampNeg)) → AWi D (d + 1) nModel_isDone 61 [(0, .ref 39), (1, .int a0), (2, .ref 56), (3, .int (F 55 (F 42 a0.toNatClampNeg).toNatClampNeg)), (4, .int (F 55 (F 43 a0.toNatClampNeg).toNatClampNeg))] [] F G Q))))) ∧ (¬ (0 ≤ (F 55 (F 43 a0.toNatClampNeg).toNatClampNeg)) → Q 0 F G))))) : AMi D (d + 1) nModel_isDone [.ref 39, .int a0, .ref 56] F G Q := by
  refine AM_intro (by decide) (Nat.le_of_ble_eq_true rfl) ?_
  intro X CX
  refine gw_aload_n CX.1 2 rfl dModel_isDone_0 rfl ?_
  refine gw_aload_n CX.1 0 rfl dModel_isDone_1 rfl ?_
  refine gg_Model_19 CX.1 rfl dModel_isDone_2 ?_
  refine gw_iload_n CX.1 1 rfl dModel_isDone_5 rfl ?_
  obtain ⟨hin, H⟩ := H
  refine ga_42 CX.1 hin dModel_isDone_6 ?_
  obtain ⟨hin, H⟩ := H
  refine ga_55 CX.1 hin dModel_isDone_7 ?_
  refine gw_istore_n CX.1 dModel_isDone_8 rfl (by decide) rfl ?_
  refine gw_aload_n CX.1 3 rfl dModel_isDone_9 rfl ?_
  refine gw_aload_n CX.1 1 rfl dModel_isDone_10 rfl ?_
  refine gg_Model_22 CX.1 rfl dModel_isDone_11 ?_
  refine gw_iload_n CX.1 2 rfl dModel_isDone_14 rfl ?_
  obtain ⟨hin, H⟩ := H
  refine ga_43 CX.1 hin dModel_isDone_15 ?_
  obtain ⟨hin, H⟩ := H
  refine ga_55 CX.1 hin dModel_isDone_16 ?_
  refine gw_istore CX.1 dModel_isDone_17 (by decide) rfl ?_
  refine gw_iload_n CX.1 1 rfl dModel_isDone_19 rfl ?_
  refine gw_if_lt (tgt := 28) CX.1 dModel_isDone_20 (by decide) (fun c => ?_) (fun c => ?_)
  · replace H := H.1 c
    refine gw_iconst (v := 0) CX.1 dModel_isDone_28 (by decide) ?_
    exact gw_iret CX rfl (by decide) ⟨_, _, _, rfl, rfl, H⟩ (Nat.zero_le _) (Nat.zero_le _) dModel_isDone_29
  · replace H := H.2 c
    refine gw_iload CX.1 0 rfl dModel_isDone_23 ?_
    refine gw_if_ge (tgt := 30) CX.1 dModel_isDone_25 (by decide) (fun c => ?_) (fun c => ?_)
    · replace H := H.1 c
      refine gw_aload_n CX.1 2 rfl dModel_isDone_30 rfl ?_
      refine gg_Model_31 CX.1 rfl dModel_isDone_31 ?_
      refine gw_iload_n CX.1 1 rfl dModel_isDone_34 rfl ?_
      obtain ⟨hin, H⟩ := H
      refine ga_46 CX.1 hin dModel_isDone_35 ?_
      refine gw_aload_n CX.1 2 rfl dModel_isDone_36 rfl ?_
      refine gg_Model_19 CX.1 rfl dModel_isDone_37 ?_
      refine gw_iload_n CX.1 3 rfl dModel_isDone_40 rfl ?_
      obtain ⟨hin, H⟩ := H
      refine ga_42 CX.1 hin dModel_isDone_41 ?_
      refine gw_icmp_ne (tgt := 61) CX.1 dModel_isDone_42 (by decide) (fun c => ?_) (fun c => ?_)
      · replace H := H.1 c
        exact gw_sub [2, 3, 4, 1, 0] rfl (H X CX)
      · replace H := H.2 c
        refine gw_aload_n CX.1 2 rfl dModel_isDone_45 rfl ?_
        refine gg_Model_31 CX.1 rfl dModel_isDone_46 ?_
        refine gw_iload CX.1 0 rfl dModel_isDone_49 ?_
        obtain ⟨hin, H⟩ := H
        refine ga_46 CX.1 hin dModel_isDone_51 ?_
        refine gw_aload_n CX.1 2 rfl dModel_isDone_52 rfl ?_
        refine gg_Model_22 CX.1 rfl dModel_isDone_53 ?_
        refine gw_iload_n CX.1 3 rfl dModel_isDone_56 rfl ?_
        obtain ⟨hin, H⟩ := H
        refine ga_43 CX.1 hin dModel_isDone_57 ?_
        refine gw_icmp_eq (tgt := 71) CX.1 dModel_isDone_58 (by decide) (fun c => ?_) (fun c => ?_)
        · replace H := H.1 c
          refine gw_iconst (v := 1) CX.1 dModel_isDone_71 (by decide) ?_
          refine gw_goto (tgt := 76) CX.1 dModel_isDone_72 (by decide) ?_
          exact gw_iret CX rfl (by decide) ⟨_, _, _, rfl, rfl, H⟩ (Nat.zero_le _) (Nat.zero_le _) dModel_isDone_76
        · replace H := H.2 c
          exact gw_sub [2, 3, 4, 1, 0] rfl (H X CX)
    · replace H := H.2 c
      refine gw_iconst (v := 0) CX.1 dModel_isDone_28 (by decide) ?_
      exact gw_iret CX rfl (by decide) ⟨_, _, _, rfl, rfl, H⟩ (Nat.zero_le _) (Nat.zero_le _) dModel_isDone_29
theorem bModel_isDone_1_61 {D : va_G} {d : Nat} {Q : Int32 → (Nat → Nat → Int32) → (Nat → Int64) → Prop} {F : Nat → Nat → Int32} {G : Nat → Int64} {x1 : Int32} {x3 : Int32} {x4 : Int32} (H : AMi D d nModel_isRehearsed [.ref 39, .int x3, .int x4] F G (fun x1_ F1 G1 => ((x1_ = 0 → Q 0 F1 G1) ∧ (¬ (x1_ = 0) → Q 1 F1 G1)))) : AWi D (d + 1) nModel_isDone 61 [(0, .ref 39), (1, .int x1), (2, .ref 52), (3, .int x3), (4, .int x4)] [] F G Q := by
  intro X CX
  refine gw_aload_n CX.1 0 rfl dModel_isDone_61 rfl ?_
  refine gw_iload_n CX.1 3 rfl dModel_isDone_62 rfl ?_
  refine gw_iload CX.1 4 rfl dModel_isDone_63 ?_
  refine cl_Model_isRehearsed CX (Nat.le_of_ble_eq_true rfl) wm_Model_151 dModel_isDone_65 H (fun x1_ F1 G1 H => ?_)
  refine gw_if_eq (tgt := 75) CX.1 dModel_isDone_68 (by decide) (fun c => ?_) (fun c => ?_)
  · replace H := H.1 c
    refine gw_iconst (v := 0) CX.1 dModel_isDone_75 (by decide) ?_
    exact gw_iret CX rfl (by decide) ⟨_, _, _, rfl, rfl, H⟩ (Nat.zero_le _) (Nat.zero_le _) dModel_isDone_76
  · replace H := H.2 c
    refine gw_iconst (v := 1) CX.1 dModel_isDone_71 (by decide) ?_
    refine gw_goto (tgt := 76) CX.1 dModel_isDone_72 (by decide) ?_
    exact gw_iret CX rfl (by decide) ⟨_, _, _, rfl, rfl, H⟩ (Nat.zero_le _) (Nat.zero_le _) dModel_isDone_76
theorem eModel_isDone_1 {D : va_G} {d : Nat} {Q : Int32 → (Nat → Nat → Int32) → (Nat → Int64) → Prop} {F : Nat → Nat → Int32} {G : Nat → Int64} {a0 : Int32} (H : vp_in a0 30 ∧ vp_in (F 42 a0.toNatClampNeg) 8 ∧ vp_in a0 30 ∧ vp_in (F 43 a0.toNatClampNeg) 8 ∧ (((F 51 (F 42 a0.toNatClampNeg).toNatClampNeg) < 0 → Q 0 F G) ∧ (¬ ((F 51 (F 42 a0.toNatClampNeg).toNatClampNeg) < 0) → ((0 ≤ (F 51 (F 43 a0.toNatClampNeg).toNatClampNeg) → vp_in (F 51 (F 42 a0.toNatClampNeg).toNatClampNeg) 10 ∧ vp_in a0 30 ∧ ((¬ (F 46 (F 51 (F 42 a0.toNatClampNeg).toNatClampNeg).toNatClampNeg) = (F 42 a0.toNatClampNeg) → AWi D (d + 1) nModel_isDone 61 [(0, .ref 39), (1, .int a0), (2, .ref 52), (3, .int (F 51 (F 42 a0.toNatClampNeg).toNatClampNeg)), (4, .int (F 51 (F 43 a0.toNatClampNeg).toNatClampNeg))] [] F G Q) ∧ ((F 46 (F 51 (F 42 a0.toNatClampNeg).toNatClampNeg).toNatClampNeg) = (F 42 a0.toNatClampNeg) → vp_in (F 51 (F 43 a0.toNatClampNeg).toNatClampNeg) 10 ∧ vp_in a0 30 ∧ (((F 46 (F 51 (F 43 a0.toNatClampNeg).toNatClampNeg).toNatClampNeg) = (F 43 a0.toNatClampNeg) → Q 1 F G) ∧ (¬ ((F 46 (F 51 (F 43 a0.toNatClampNeg).toNatClampNeg).toNatClampNeg) = (F 43 a0.toNatClampNeg)) → AWi D (d + 1) nModel_isDone 61 [(0, .ref 39), (1, .int a0), (2, .ref 52), (3, .int (F 51 (F 42 a0.toNatClampNeg).toNatClampNeg)), (4, .int (F 51 (F 43 a0.toNatClampNeg).toNatClampNeg))] [] F G Q))))) ∧ (¬ (0 ≤ (F 51 (F 43 a0.toNatClampNeg).toNatClampNeg)) → Q 0 F G))))) : AMi D (d + 1) nModel_isDone [.ref 39, .int a0, .ref 52] F G Q := by
  refine AM_intro (by decide) (Nat.le_of_ble_eq_true rfl) ?_
  intro X CX
  refine gw_aload_n CX.1 2 rfl dModel_isDone_0 rfl ?_
  refine gw_aload_n CX.1 0 rfl dModel_isDone_1 rfl ?_
  refine gg_Model_19 CX.1 rfl dModel_isDone_2 ?_
  refine gw_iload_n CX.1 1 rfl dModel_isDone_5 rfl ?_
  obtain ⟨hin, H⟩ := H
  refine ga_42 CX.1 hin dModel_isDone_6 ?_
  obtain ⟨hin, H⟩ := H
  refine ga_51 CX.1 hin dModel_isDone_7 ?_
  refine gw_istore_n CX.1 dModel_isDone_8 rfl (by decide) rfl ?_
  refine gw_aload_n CX.1 3 rfl dModel_isDone_9 rfl ?_
  refine gw_aload_n CX.1 1 rfl dModel_isDone_10 rfl ?_
  refine gg_Model_22 CX.1 rfl dModel_isDone_11 ?_
  refine gw_iload_n CX.1 2 rfl dModel_isDone_14 rfl ?_
  obtain ⟨hin, H⟩ := H
  refine ga_43 CX.1 hin dModel_isDone_15 ?_
  obtain ⟨hin, H⟩ := H
  refine ga_51 CX.1 hin dModel_isDone_16 ?_
  refine gw_istore CX.1 dModel_isDone_17 (by decide) rfl ?_
  refine gw_iload_n CX.1 1 rfl dModel_isDone_19 rfl ?_
  refine gw_if_lt (tgt := 28) CX.1 dModel_isDone_20 (by decide) (fun c => ?_) (fun c => ?_)
  · replace H := H.1 c
    refine gw_iconst (v := 0) CX.1 dModel_isDone_28 (by decide) ?_
    exact gw_iret CX rfl (by decide) ⟨_, _, _, rfl, rfl, H⟩ (Nat.zero_le _) (Nat.zero_le _) dModel_isDone_29
  · replace H := H.2 c
    refine gw_iload CX.1 0 rfl dModel_isDone_23 ?_
    refine gw_if_ge (tgt := 30) CX.1 dModel_isDone_25 (by decide) (fun c => ?_) (fun c => ?_)
    · replace H := H.1 c
      refine gw_aload_n CX.1 2 rfl dModel_isDone_30 rfl ?_
      refine gg_Model_31 CX.1 rfl dModel_isDone_31 ?_
      refine gw_iload_n CX.1 1 rfl dModel_isDone_34 rfl ?_
      obtain ⟨hin, H⟩ := H
      refine ga_46 CX.1 hin dModel_isDone_35 ?_
      refine gw_aload_n CX.1 2 rfl dModel_isDone_36 rfl ?_
      refine gg_Model_19 CX.1 rfl dModel_isDone_37 ?_
      refine gw_iload_n CX.1 3 rfl dModel_isDone_40 rfl ?_
      obtain ⟨hin, H⟩ := H
      refine ga_42 CX.1 hin dModel_isDone_41 ?_
      refine gw_icmp_ne (tgt := 61) CX.1 dModel_isDone_42 (by decide) (fun c => ?_) (fun c => ?_)
      · replace H := H.1 c
        exact gw_sub [2, 3, 4, 1, 0] rfl (H X CX)
      · replace H := H.2 c
        refine gw_aload_n CX.1 2 rfl dModel_isDone_45 rfl ?_
        refine gg_Model_31 CX.1 rfl dModel_isDone_46 ?_
        refine gw_iload CX.1 0 rfl dModel_isDone_49 ?_
        obtain ⟨hin, H⟩ := H
        refine ga_46 CX.1 hin dModel_isDone_51 ?_
        refine gw_aload_n CX.1 2 rfl dModel_isDone_52 rfl ?_
        refine gg_Model_22 CX.1 rfl dModel_isDone_53 ?_
        refine gw_iload_n CX.1 3 rfl dModel_isDone_56 rfl ?_
        obtain ⟨hin, H⟩ := H
        refine ga_43 CX.1 hin dModel_isDone_57 ?_
        refine gw_icmp_eq (tgt := 71) CX.1 dModel_isDone_58 (by decide) (fun c => ?_) (fun c => ?_)
        · replace H := H.1 c
          refine gw_iconst (v := 1) CX.1 dModel_isDone_71 (by decide) ?_
          refine gw_goto (tgt := 76) CX.1 dModel_isDone_72 (by decide) ?_
          exact gw_iret CX rfl (by decide) ⟨_, _, _, rfl, rfl, H⟩ (Nat.zero_le _) (Nat.zero_le _) dModel_isDone_76
        · replace H := H.2 c
          exact gw_sub [2, 3, 4, 1, 0] rfl (H X CX)
    · replace H := H.2 c
      refine gw_iconst (v := 0) CX.1 dModel_isDone_28 (by decide) ?_
      exact gw_iret CX rfl (by decide) ⟨_, _, _, rfl, rfl, H⟩ (Nat.zero_le _) (Nat.zero_le _) dModel_isDone_29
theorem eModel_isRehearsed {D : va_G} {d : Nat} {Q : Int32 → (Nat → Nat → Int32) → (Nat → Int64) → Prop} {F : Nat → Nat → Int32} {G : Nat → Int64} {a0 : Int32} {a1 : Int32} (H : vp_in ((10 * a0) + a1) 100 ∧ (((F 48 ((10 * a0) + a1).toNatClampNeg) < 0 → Q 0 F G) ∧ (¬ ((F 48 ((10 * a0) + a1).toNatClampNeg) < 0) → ((30 ≤ ((F 112 0) - (F 48 ((10 * a0) + a1).toNatClampNeg)) → Q 0 F G) ∧ (¬ (30 ≤ ((F 112 0) - (F 48 ((10 * a0) + a1).toNatClampNeg))) → Q 1 F G))))) : AMi D (d + 1) nModel_isRehearsed [.ref 39, .int a0, .int a1] F G Q := by
  refine AM_intro (by decide) (Nat.le_of_ble_eq_true rfl) ?_
  intro X CX
  refine gw_aload_n CX.1 0 rfl dModel_isRehearsed_0 rfl ?_
  refine gg_Model_37 CX.1 rfl dModel_isRehearsed_1 ?_
  refine gw_bipush (v := 10) CX.1 dModel_isRehearsed_4 (by decide) ?_
  refine gw_iload_n CX.1 1 rfl dModel_isRehearsed_6 rfl ?_
  refine gw_imul CX.1 dModel_isRehearsed_7 ?_
  refine gw_iload_n CX.1 2 rfl dModel_isRehearsed_8 rfl ?_
  refine gw_iadd CX.1 dModel_isRehearsed_9 ?_
  obtain ⟨hin, H⟩ := H
  refine ga_48 CX.1 hin dModel_isRehearsed_10 ?_
  refine gw_istore_n CX.1 dModel_isRehearsed_11 rfl (by decide) rfl ?_
  refine gw_iload_n CX.1 0 rfl dModel_isRehearsed_12 rfl ?_
  refine gw_if_lt (tgt := 31) CX.1 dModel_isRehearsed_13 (by decide) (fun c => ?_) (fun c => ?_)
  · replace H := H.1 c
    refine gw_iconst (v := 0) CX.1 dModel_isRehearsed_31 (by decide) ?_
    exact gw_iret CX rfl (by decide) ⟨_, _, _, rfl, rfl, H⟩ (Nat.zero_le _) (Nat.zero_le _) dModel_isRehearsed_32
  · replace H := H.2 c
    refine gw_aload_n CX.1 1 rfl dModel_isRehearsed_16 rfl ?_
    refine gg_Model_119 CX.1 rfl dModel_isRehearsed_17 ?_
    refine gw_iload_n CX.1 0 rfl dModel_isRehearsed_20 rfl ?_
    refine gw_isub CX.1 dModel_isRehearsed_21 ?_
    refine gw_bipush (v := 30) CX.1 dModel_isRehearsed_22 (by decide) ?_
    refine gw_icmp_ge (tgt := 31) CX.1 dModel_isRehearsed_24 (by decide) (fun c => ?_) (fun c => ?_)
    · replace H := H.1 c
      refine gw_iconst (v := 0) CX.1 dModel_isRehearsed_31 (by decide) ?_
      exact gw_iret CX rfl (by decide) ⟨_, _, _, rfl, rfl, H⟩ (Nat.zero_le _) (Nat.zero_le _) dModel_isRehearsed_32
    · replace H := H.2 c
      refine gw_iconst (v := 1) CX.1 dModel_isRehearsed_27 (by decide) ?_
      refine gw_goto (tgt := 32) CX.1 dModel_isRehearsed_28 (by decide) ?_
      exact gw_iret CX rfl (by decide) ⟨_, _, _, rfl, rfl, H⟩ (Nat.zero_le _) (Nat.zero_le _) dModel_isRehearsed_32
theorem bModel_fits_27 {D : va_G} {d : Nat} {Q : Int32 → (Nat → Nat → Int32) → (Nat → Int64) → Prop} {F : Nat → Nat → Int32} {G : Nat → Int64} {x1 : Int32} {x2 : Int32} {x3 : Int32} (H : ((x2 ≤ x3 → Q 1 F G) ∧ (¬ (x2 ≤ x3) → vp_in x3 8 ∧ ((¬ (F 55 x3.toNatClampNeg) = x1 → AWi D (d + 1) nModel_fits 55 [(0, .ref 39), (1, .int x1), (2, .int x2), (3, .int x3), (4, .int (F 55 x3.toNatClampNeg))] [] F G Q) ∧ ((F 55 x3.toNatClampNeg) = x1 → AMi D d nModel_meet [.ref 39, .int x2, .int x3] F G (fun x1_ F1 G1 => ((¬ x1_ = 0 → Q 0 F1 G1) ∧ (x1_ = 0 → AWi D (d + 1) nModel_fits 55 [(0, .ref 39), (1, .int x1), (2, .int x2), (3, .int x3), (4, .int (F 55 x3.toNatClampNeg))] [] F1 G1 Q)))))))) : AWi D (d + 1) nModel_fits 27 [(0, .ref 39), (1, .int x1), (2, .int x2), (3, .int x3)] [] F G Q := by
  intro X CX
  refine gw_iload_n CX.1 3 rfl dModel_fits_27 rfl ?_
  refine gw_iload_n CX.1 2 rfl dModel_fits_28 rfl ?_
  refine gw_icmp_ge (tgt := 98) CX.1 dModel_fits_29 (by decide) (fun c => ?_) (fun c => ?_)
  · replace H := H.1 c
    refine gw_iconst (v := 1) CX.1 dModel_fits_98 (by decide) ?_
    exact gw_iret CX rfl (by decide) ⟨_, _, _, rfl, rfl, H⟩ (Nat.zero_le _) (Nat.zero_le _) dModel_fits_99
  · replace H := H.2 c
    refine gw_aload_n CX.1 0 rfl dModel_fits_32 rfl ?_
    refine gg_Model_58 CX.1 rfl dModel_fits_33 ?_
    refine gw_iload_n CX.1 3 rfl dModel_fits_36 rfl ?_
    obtain ⟨hin, H⟩ := H
    refine ga_55 CX.1 hin dModel_fits_37 ?_
    refine gw_istore CX.1 dModel_fits_38 (by decide) rfl ?_
    refine gw_iload CX.1 0 rfl dModel_fits_40 ?_
    refine gw_iload_n CX.1 2 rfl dModel_fits_42 rfl ?_
    refine gw_icmp_ne (tgt := 55) CX.1 dModel_fits_43 (by decide) (fun c => ?_) (fun c => ?_)
    · replace H := H.1 c
      exact gw_sub [1, 2, 3, 4, 0] rfl (H X CX)
    · replace H := H.2 c
      refine gw_aload_n CX.1 1 rfl dModel_fits_46 rfl ?_
      refine gw_iload_n CX.1 3 rfl dModel_fits_47 rfl ?_
      refine gw_iload_n CX.1 4 rfl dModel_fits_48 rfl ?_
      refine cl_Model_meet CX (Nat.le_of_ble_eq_true rfl) wm_Model_145 dModel_fits_49 H (fun x1_ F1 G1 H => ?_)
      refine gw_if_ne (tgt := 90) CX.1 dModel_fits_52 (by decide) (fun c => ?_) (fun c => ?_)
      · replace H := H.1 c
        refine gw_iconst (v := 0) CX.1 dModel_fits_90 (by decide) ?_
        exact gw_iret CX rfl (by decide) ⟨_, _, _, rfl, rfl, H⟩ (Nat.zero_le _) (Nat.zero_le _) dModel_fits_91
      · replace H := H.2 c
        exact gw_sub [1, 2, 3, 4, 0] rfl (H X CX)
theorem bModel_fits_55 {D : va_G} {d : Nat} {Q : Int32 → (Nat → Nat → Int32) → (Nat → Int64) → Prop} {F : Nat → Nat → Int32} {G : Nat → Int64} {x1 : Int32} {x2 : Int32} {x3 : Int32} {x4 : Int32} (H : ((x4 < 0 → AWi D (d + 1) nModel_fits 27 [(0, .ref 39), (1, .int x1), (2, .int x2), (3, .int (x3 + 1))] [] F G Q) ∧ (¬ (x4 < 0) → ((x4 = x1 → AWi D (d + 1) nModel_fits 27 [(0, .ref 39), (1, .int x1), (2, .int x2), (3, .int (x3 + 1))] [] F G Q) ∧ (¬ (x4 = x1) → vp_in x1 10 ∧ ((¬ (((F 49 x1.toNatClampNeg) >>> (x4 &&& 31)) &&& 1) = 1 → AWi D (d + 1) nModel_fits 27 [(0, .ref 39), (1, .int x1), (2, .int x2), (3, .int (x3 + 1))] [] F G Q) ∧ ((((F 49 x1.toNatClampNeg) >>> (x4 &&& 31)) &&& 1) = 1 → AMi D d nModel_areBeside [.ref 39, .int x2, .int x3] F G (fun x1_ F1 G1 => ((x1_ = 0 → AWi D (d + 1) nModel_fits 27 [(0, .ref 39), (1, .int x1), (2, .int x2), (3, .int (x3 + 1))] [] F1 G1 Q) ∧ (¬ (x1_ = 0) → Q 0 F1 G1)))))))))) : AWi D (d + 1) nModel_fits 55 [(0, .ref 39), (1, .int x1), (2, .int x2), (3, .int x3), (4, .int x4)] [] F G Q := by
  intro X CX
  refine gw_iload CX.1 4 rfl dModel_fits_55 ?_
  refine gw_if_lt (tgt := 92) CX.1 dModel_fits_57 (by decide) (fun c => ?_) (fun c => ?_)
  · replace H := H.1 c
    refine gw_iinc (v := (x3 + 1)) CX.1 3 rfl dModel_fits_92 rfl (by decide) rfl ?_
    refine gw_goto (tgt := 27) CX.1 dModel_fits_95 (by decide) ?_
    exact gw_sub [1, 2, 3, 0] rfl (H X CX)
  · replace H := H.2 c
    refine gw_iload CX.1 4 rfl dModel_fits_60 ?_
    refine gw_iload_n CX.1 1 rfl dModel_fits_62 rfl ?_
    refine gw_icmp_eq (tgt := 92) CX.1 dModel_fits_63 (by decide) (fun c => ?_) (fun c => ?_)
    · replace H := H.1 c
      refine gw_iinc (v := (x3 + 1)) CX.1 3 rfl dModel_fits_92 rfl (by decide) rfl ?_
      refine gw_goto (tgt := 27) CX.1 dModel_fits_95 (by decide) ?_
      exact gw_sub [1, 2, 3, 0] rfl (H X CX)
    · replace H := H.2 c
      refine gw_aload_n CX.1 0 rfl dModel_fits_66 rfl ?_
      refine gg_Model_40 CX.1 rfl dModel_fits_67 ?_
      refine gw_iload_n CX.1 1 rfl dModel_fits_70 rfl ?_
      obtain ⟨hin, H⟩ := H
      refine ga_49 CX.1 hin dModel_fits_71 ?_
      refine gw_iload CX.1 4 rfl dModel_fits_72 ?_
      refine gw_ishr CX.1 dModel_fits_74 ?_
      refine gw_iconst (v := 1) CX.1 dModel_fits_75 (by decide) ?_
      refine gw_iand CX.1 dModel_fits_76 ?_
      refine gw_iconst (v := 1) CX.1 dModel_fits_77 (by decide) ?_
      refine gw_icmp_ne (tgt := 92) CX.1 dModel_fits_78 (by decide) (fun c => ?_) (fun c => ?_)
      · replace H := H.1 c
        refine gw_iinc (v := (x3 + 1)) CX.1 3 rfl dModel_fits_92 rfl (by decide) rfl ?_
        refine gw_goto (tgt := 27) CX.1 dModel_fits_95 (by decide) ?_
        exact gw_sub [1, 2, 3, 0] rfl (H X CX)
      · replace H := H.2 c
        refine gw_aload_n CX.1 0 rfl dModel_fits_81 rfl ?_
        refine gw_iload_n CX.1 2 rfl dModel_fits_82 rfl ?_
        refine gw_iload_n CX.1 3 rfl dModel_fits_83 rfl ?_
        refine cl_Model_areBeside CX (Nat.le_of_ble_eq_true rfl) wm_Model_148 dModel_fits_84 H (fun x1_ F1 G1 H => ?_)
        refine gw_if_eq (tgt := 92) CX.1 dModel_fits_87 (by decide) (fun c => ?_) (fun c => ?_)
        · replace H := H.1 c
          refine gw_iinc (v := (x3 + 1)) CX.1 3 rfl dModel_fits_92 rfl (by decide) rfl ?_
          refine gw_goto (tgt := 27) CX.1 dModel_fits_95 (by decide) ?_
          exact gw_sub [1, 2, 3, 0] rfl (H X CX)
        · replace H := H.2 c
          refine gw_iconst (v := 0) CX.1 dModel_fits_90 (by decide) ?_
          exact gw_iret CX rfl (by decide) ⟨_, _, _, rfl, rfl, H⟩ (Nat.zero_le _) (Nat.zero_le _) dModel_fits_91
theorem eModel_fits {D : va_G} {d : Nat} {Q : Int32 → (Nat → Nat → Int32) → (Nat → Int64) → Prop} {F : Nat → Nat → Int32} {G : Nat → Int64} {a0 : Int32} {a1 : Int32} (H : AMi D d nModel_canHave [.ref 39, .int a0, .int a1] F G (fun x1_ F1 G1 => ((x1_ = 0 → Q 0 F1 G1) ∧ (¬ (x1_ = 0) → vp_in a0 10 ∧ AMi D d nModel_isInFrom [.ref 39, .int a1, .int (F1 50 a0.toNatClampNeg)] F1 G1 (fun x2_ F2 G2 => ((x2_ = 0 → AWi D (d + 1) nModel_fits 27 [(0, .ref 39), (1, .int a0), (2, .int a1), (3, .int 0)] [] F2 G2 Q) ∧ (¬ (x2_ = 0) → Q 0 F2 G2))))))) : AMi D (d + 1) nModel_fits [.ref 39, .int a0, .int a1] F G Q := by
  refine AM_intro (by decide) (Nat.le_of_ble_eq_true rfl) ?_
  intro X CX
  refine gw_aload_n CX.1 0 rfl dModel_fits_0 rfl ?_
  refine gw_iload_n CX.1 1 rfl dModel_fits_1 rfl ?_
  refine gw_iload_n CX.1 2 rfl dModel_fits_2 rfl ?_
  refine cl_Model_canHave CX (Nat.le_of_ble_eq_true rfl) wm_Model_139 dModel_fits_3 H (fun x1_ F1 G1 H => ?_)
  refine gw_if_eq (tgt := 23) CX.1 dModel_fits_6 (by decide) (fun c => ?_) (fun c => ?_)
  · replace H := H.1 c
    refine gw_iconst (v := 0) CX.1 dModel_fits_23 (by decide) ?_
    exact gw_iret CX rfl (by decide) ⟨_, _, _, rfl, rfl, H⟩ (Nat.zero_le _) (Nat.zero_le _) dModel_fits_24
  · replace H := H.2 c
    refine gw_aload_n CX.1 0 rfl dModel_fits_9 rfl ?_
    refine gw_iload_n CX.1 2 rfl dModel_fits_10 rfl ?_
    refine gw_aload_n CX.1 0 rfl dModel_fits_11 rfl ?_
    refine gg_Model_43 CX.1 rfl dModel_fits_12 ?_
    refine gw_iload_n CX.1 1 rfl dModel_fits_15 rfl ?_
    obtain ⟨hin, H⟩ := H
    refine ga_50 CX.1 hin dModel_fits_16 ?_
    refine cl_Model_isInFrom CX (Nat.le_of_ble_eq_true rfl) wm_Model_142 dModel_fits_17 H (fun x2_ F2 G2 H => ?_)
    refine gw_if_eq (tgt := 25) CX.1 dModel_fits_20 (by decide) (fun c => ?_) (fun c => ?_)
    · replace H := H.1 c
      refine gw_iconst (v := 0) CX.1 dModel_fits_25 (by decide) ?_
      refine gw_istore_n CX.1 dModel_fits_26 rfl (by decide) rfl ?_
      exact gw_sub [1, 2, 3, 0] rfl (H X CX)
    · replace H := H.2 c
      refine gw_iconst (v := 0) CX.1 dModel_fits_23 (by decide) ?_
      exact gw_iret CX rfl (by decide) ⟨_, _, _, rfl, rfl, H⟩ (Nat.zero_le _) (Nat.zero_le _) dModel_fits_24
theorem bModel_canHave_19 {D : va_G} {d : Nat} {Q : Int32 → (Nat → Nat → Int32) → (Nat → Int64) → Prop} {F : Nat → Nat → Int32} {G : Nat → Int64} {x1 : Int32} {x2 : Int32} (H : vp_in x1 10 ∧ vp_in x2 8 ∧ AMi D d nModel_far [.int (F 45 x1.toNatClampNeg), .int (F 39 x2.toNatClampNeg)] F G (fun x1_ F1 G1 => ((1 < x1_ → Q 0 F1 G1) ∧ (¬ (1 < x1_) → Q 1 F1 G1)))) : AWi D (d + 1) nModel_canHave 19 [(0, .ref 39), (1, .int x1), (2, .int x2)] [] F G Q := by
  intro X CX
  refine gw_aload_n CX.1 0 rfl dModel_canHave_19 rfl ?_
  refine gg_Model_28 CX.1 rfl dModel_canHave_20 ?_
  refine gw_iload_n CX.1 1 rfl dModel_canHave_23 rfl ?_
  obtain ⟨hin, H⟩ := H
  refine ga_45 CX.1 hin dModel_canHave_24 ?_
  refine gw_aload_n CX.1 0 rfl dModel_canHave_25 rfl ?_
  refine gg_Model_7 CX.1 rfl dModel_canHave_26 ?_
  refine gw_iload_n CX.1 2 rfl dModel_canHave_29 rfl ?_
  obtain ⟨hin, H⟩ := H
  refine ga_39 CX.1 hin dModel_canHave_30 ?_
  refine cl_Model_far CX (Nat.le_of_ble_eq_true rfl) wm_Model_132 dModel_canHave_31 H (fun x1_ F1 G1 H => ?_)
  refine gw_iconst (v := 1) CX.1 dModel_canHave_34 (by decide) ?_
  refine gw_icmp_gt (tgt := 42) CX.1 dModel_canHave_35 (by decide) (fun c => ?_) (fun c => ?_)
  · replace H := H.1 c
    refine gw_iconst (v := 0) CX.1 dModel_canHave_42 (by decide) ?_
    exact gw_iret CX rfl (by decide) ⟨_, _, _, rfl, rfl, H⟩ (Nat.zero_le _) (Nat.zero_le _) dModel_canHave_43
  · replace H := H.2 c
    refine gw_iconst (v := 1) CX.1 dModel_canHave_38 (by decide) ?_
    refine gw_goto (tgt := 43) CX.1 dModel_canHave_39 (by decide) ?_
    exact gw_iret CX rfl (by decide) ⟨_, _, _, rfl, rfl, H⟩ (Nat.zero_le _) (Nat.zero_le _) dModel_canHave_43
theorem eModel_canHave {D : va_G} {d : Nat} {Q : Int32 → (Nat → Nat → Int32) → (Nat → Int64) → Prop} {F : Nat → Nat → Int32} {G : Nat → Int64} {a0 : Int32} {a1 : Int32} (H : vp_in a0 10 ∧ (((F 46 a0.toNatClampNeg) = a1 → AWi D (d + 1) nModel_canHave 19 [(0, .ref 39), (1, .int a0), (2, .int a1)] [] F G Q) ∧ (¬ ((F 46 a0.toNatClampNeg) = a1) → AMi D d nModel_knows [.ref 39, .int a0, .int a1] F G (fun x1_ F1 G1 => ((x1_ = 0 → Q 0 F1 G1) ∧ (¬ (x1_ = 0) → AWi D (d + 1) nModel_canHave 19 [(0, .ref 39), (1, .int a0), (2, .int a1)] [] F1 G1 Q)))))) : AMi D (d + 1) nModel_canHave [.ref 39, .int a0, .int a1] F G Q := by
  refine AM_intro (by decide) (Nat.le_of_ble_eq_true rfl) ?_
  intro X CX
  refine gw_aload_n CX.1 0 rfl dModel_canHave_0 rfl ?_
  refine gg_Model_31 CX.1 rfl dModel_canHave_1 ?_
  refine gw_iload_n CX.1 1 rfl dModel_canHave_4 rfl ?_
  obtain ⟨hin, H⟩ := H
  refine ga_46 CX.1 hin dModel_canHave_5 ?_
  refine gw_iload_n CX.1 2 rfl dModel_canHave_6 rfl ?_
  refine gw_icmp_eq (tgt := 19) CX.1 dModel_canHave_7 (by decide) (fun c => ?_) (fun c => ?_)
  · replace H := H.1 c
    exact H X CX
  · replace H := H.2 c
    refine gw_aload_n CX.1 0 rfl dModel_canHave_10 rfl ?_
    refine gw_iload_n CX.1 1 rfl dModel_canHave_11 rfl ?_
    refine gw_iload_n CX.1 2 rfl dModel_canHave_12 rfl ?_
    refine cl_Model_knows CX (Nat.le_of_ble_eq_true rfl) wm_Model_122 dModel_canHave_13 H (fun x1_ F1 G1 H => ?_)
    refine gw_if_eq (tgt := 42) CX.1 dModel_canHave_16 (by decide) (fun c => ?_) (fun c => ?_)
    · replace H := H.1 c
      refine gw_iconst (v := 0) CX.1 dModel_canHave_42 (by decide) ?_
      exact gw_iret CX rfl (by decide) ⟨_, _, _, rfl, rfl, H⟩ (Nat.zero_le _) (Nat.zero_le _) dModel_canHave_43
    · replace H := H.2 c
      exact H X CX
theorem eModel_far {D : va_G} {d : Nat} {Q : Int32 → (Nat → Nat → Int32) → (Nat → Int64) → Prop} {F : Nat → Nat → Int32} {G : Nat → Int64} {a0 : Int32} {a1 : Int32} (H : ((a1 ≤ a0 → Q (a0 - a1) F G) ∧ (¬ (a1 ≤ a0) → Q (a1 - a0) F G))) : AMi D (d + 1) nModel_far [.int a0, .int a1] F G Q := by
  refine AM_intro (by decide) (Nat.le_of_ble_eq_true rfl) ?_
  intro X CX
  refine gw_iload_n CX.1 0 rfl dModel_far_0 rfl ?_
  refine gw_iload_n CX.1 1 rfl dModel_far_1 rfl ?_
  refine gw_icmp_ge (tgt := 11) CX.1 dModel_far_2 (by decide) (fun c => ?_) (fun c => ?_)
  · replace H := H.1 c
    refine gw_iload_n CX.1 0 rfl dModel_far_11 rfl ?_
    refine gw_iload_n CX.1 1 rfl dModel_far_12 rfl ?_
    refine gw_isub CX.1 dModel_far_13 ?_
    exact gw_iret CX rfl rfl ⟨_, _, _, rfl, rfl, H⟩ (Nat.zero_le _) (Nat.zero_le _) dModel_far_14
  · replace H := H.2 c
    refine gw_iload_n CX.1 1 rfl dModel_far_5 rfl ?_
    refine gw_iload_n CX.1 0 rfl dModel_far_6 rfl ?_
    refine gw_isub CX.1 dModel_far_7 ?_
    refine gw_goto (tgt := 14) CX.1 dModel_far_8 (by decide) ?_
    exact gw_iret CX rfl rfl ⟨_, _, _, rfl, rfl, H⟩ (Nat.zero_le _) (Nat.zero_le _) dModel_far_14
theorem bModel_isInFrom_5 {D : va_G} {d : Nat} {Q : Int32 → (Nat → Nat → Int32) → (Nat → Int64) → Prop} {F : Nat → Nat → Int32} {G : Nat → Int64} {x1 : Int32} {x2 : Int32} {x3 : Int32} {x4 : Int32} (H : ((30 ≤ x4 → narrow .boolean (.int x3) = .int x3 ∧ Q x3 F G) ∧ (¬ (30 ≤ x4) → ((¬ x3 = 0 → AWi D (d + 1) nModel_isInFrom 5 [(0, .ref 39), (1, .int x1), (2, .int x2), (3, .int 1), (4, .int (x4 + 1))] [] F G Q) ∧ (x3 = 0 → AMi D d nModel_is [.ref 39, .int x1, .int x4] F G (fun x1_ F1 G1 => ((x1_ = 0 → AWi D (d + 1) nModel_isInFrom 5 [(0, .ref 39), (1, .int x1), (2, .int x2), (3, .int 0), (4, .int (x4 + 1))] [] F1 G1 Q) ∧ (¬ (x1_ = 0) → AWi D (d + 1) nModel_isInFrom 5 [(0, .ref 39), (1, .int x1), (2, .int x2), (3, .int 1), (4, .int (x4 + 1))] [] F1 G1 Q)))))))) : AWi D (d + 1) nModel_isInFrom 5 [(0, .ref 39), (1, .int x1), (2, .int x2), (3, .int x3), (4, .int x4)] [] F G Q := by
  intro X CX
  refine gw_iload CX.1 4 rfl dModel_isInFrom_5 ?_
  refine gw_bipush (v := 30) CX.1 dModel_isInFrom_7 (by decide) ?_
  refine gw_icmp_ge (tgt := 38) CX.1 dModel_isInFrom_9 (by decide) (fun c => ?_) (fun c => ?_)
  · replace H := H.1 c
    refine gw_iload_n CX.1 3 rfl dModel_isInFrom_38 rfl ?_
    obtain ⟨hn, H⟩ := H
    exact gw_iret CX rfl hn ⟨_, _, _, rfl, rfl, H⟩ (Nat.zero_le _) (Nat.zero_le _) dModel_isInFrom_39
  · replace H := H.2 c
    refine gw_iload_n CX.1 3 rfl dModel_isInFrom_12 rfl ?_
    refine gw_if_ne (tgt := 26) CX.1 dModel_isInFrom_13 (by decide) (fun c => ?_) (fun c => ?_)
    · replace H := H.1 c
      refine gw_iconst (v := 1) CX.1 dModel_isInFrom_26 (by decide) ?_
      refine gw_goto (tgt := 31) CX.1 dModel_isInFrom_27 (by decide) ?_
      refine gw_istore_n CX.1 dModel_isInFrom_31 rfl (by decide) rfl ?_
      refine gw_iinc (v := (x4 + 1)) CX.1 4 rfl dModel_isInFrom_32 rfl (by decide) rfl ?_
      refine gw_goto (tgt := 5) CX.1 dModel_isInFrom_35 (by decide) ?_
      exact gw_sub [2, 3, 4, 1, 0] rfl (H X CX)
    · replace H := H.2 c
      refine gw_aload_n CX.1 0 rfl dModel_isInFrom_16 rfl ?_
      refine gw_iload_n CX.1 1 rfl dModel_isInFrom_17 rfl ?_
      refine gw_iload CX.1 4 rfl dModel_isInFrom_18 ?_
      refine cl_Model_is CX (Nat.le_of_ble_eq_true rfl) wm_Model_99 dModel_isInFrom_20 H (fun x1_ F1 G1 H => ?_)
      refine gw_if_eq (tgt := 30) CX.1 dModel_isInFrom_23 (by decide) (fun c => ?_) (fun c => ?_)
      · replace H := H.1 c
        refine gw_iconst (v := 0) CX.1 dModel_isInFrom_30 (by decide) ?_
        refine gw_istore_n CX.1 dModel_isInFrom_31 rfl (by decide) rfl ?_
        refine gw_iinc (v := (x4 + 1)) CX.1 4 rfl dModel_isInFrom_32 rfl (by decide) rfl ?_
        refine gw_goto (tgt := 5) CX.1 dModel_isInFrom_35 (by decide) ?_
        exact gw_sub [2, 3, 4, 1, 0] rfl (H X CX)
      · replace H := H.2 c
        refine gw_iconst (v := 1) CX.1 dModel_isInFrom_26 (by decide) ?_
        refine gw_goto (tgt := 31) CX.1 dModel_isInFrom_27 (by decide) ?_
        refine gw_istore_n CX.1 dModel_isInFrom_31 rfl (by decide) rfl ?_
        refine gw_iinc (v := (x4 + 1)) CX.1 4 rfl dModel_isInFrom_32 rfl (by decide) rfl ?_
        refine gw_goto (tgt := 5) CX.1 dModel_isInFrom_35 (by decide) ?_
        exact gw_sub [2, 3, 4, 1, 0] rfl (H X CX)
theorem eModel_isInFrom {D : va_G} {d : Nat} {Q : Int32 → (Nat → Nat → Int32) → (Nat → Int64) → Prop} {F : Nat → Nat → Int32} {G : Nat → Int64} {a0 : Int32} {a1 : Int32} (H : AWi D (d + 1) nModel_isInFrom 5 [(0, .ref 39), (1, .int a0), (2, .int a1), (3, .int 0), (4, .int a1)] [] F G Q) : AMi D (d + 1) nModel_isInFrom [.ref 39, .int a0, .int a1] F G Q := by
  refine AM_intro (by decide) (Nat.le_of_ble_eq_true rfl) ?_
  intro X CX
  refine gw_iconst (v := 0) CX.1 dModel_isInFrom_0 (by decide) ?_
  refine gw_istore_n CX.1 dModel_isInFrom_1 rfl (by decide) rfl ?_
  refine gw_iload_n CX.1 3 rfl dModel_isInFrom_2 rfl ?_
  refine gw_istore CX.1 dModel_isInFrom_3 (by decide) rfl ?_
  exact gw_sub [2, 3, 4, 1, 0] rfl (H X CX)
theorem bModel_meet_2 {D : va_G} {d : Nat} {Q : Int32 → (Nat → Nat → Int32) → (Nat → Int64) → Prop} {F : Nat → Nat → Int32} {G : Nat → Int64} {x1 : Int32} {x2 : Int32} {x3 : Int32} (H : ((30 ≤ x3 → Q 0 F G) ∧ (¬ (30 ≤ x3) → AMi D d nModel_is [.ref 39, .int x1, .int x3] F G (fun x1_ F1 G1 => ((x1_ = 0 → AWi D (d + 1) nModel_meet 26 [(0, .ref 39), (1, .int x1), (2, .int x2), (3, .int x3)] [] F1 G1 Q) ∧ (¬ (x1_ = 0) → AMi D d nModel_is [.ref 39, .int x2, .int x3] F1 G1 (fun x2_ F2 G2 => ((¬ x2_ = 0 → Q 1 F2 G2) ∧ (x2_ = 0 → AWi D (d + 1) nModel_meet 26 [(0, .ref 39), (1, .int x1), (2, .int x2), (3, .int x3)] [] F2 G2 Q))))))))) : AWi D (d + 1) nModel_meet 2 [(0, .ref 39), (1, .int x1), (2, .int x2), (3, .int x3)] [] F G Q := by
  intro X CX
  refine gw_iload_n CX.1 3 rfl dModel_meet_2 rfl ?_
  refine gw_bipush (v := 30) CX.1 dModel_meet_3 (by decide) ?_
  refine gw_icmp_ge (tgt := 62) CX.1 dModel_meet_5 (by decide) (fun c => ?_) (fun c => ?_)
  · replace H := H.1 c
    refine gw_iconst (v := 0) CX.1 dModel_meet_62 (by decide) ?_
    exact gw_iret CX rfl (by decide) ⟨_, _, _, rfl, rfl, H⟩ (Nat.zero_le _) (Nat.zero_le _) dModel_meet_63
  · replace H := H.2 c
    refine gw_aload_n CX.1 0 rfl dModel_meet_8 rfl ?_
    refine gw_iload_n CX.1 1 rfl dModel_meet_9 rfl ?_
    refine gw_iload_n CX.1 3 rfl dModel_meet_10 rfl ?_
    refine cl_Model_is CX (Nat.le_of_ble_eq_true rfl) wm_Model_99 dModel_meet_11 H (fun x1_ F1 G1 H => ?_)
    refine gw_if_eq (tgt := 26) CX.1 dModel_meet_14 (by decide) (fun c => ?_) (fun c => ?_)
    · replace H := H.1 c
      exact H X CX
    · replace H := H.2 c
      refine gw_aload_n CX.1 0 rfl dModel_meet_17 rfl ?_
      refine gw_iload_n CX.1 2 rfl dModel_meet_18 rfl ?_
      refine gw_iload_n CX.1 3 rfl dModel_meet_19 rfl ?_
      refine cl_Model_is CX (Nat.le_of_ble_eq_true rfl) wm_Model_99 dModel_meet_20 H (fun x2_ F2 G2 H => ?_)
      refine gw_if_ne (tgt := 54) CX.1 dModel_meet_23 (by decide) (fun c => ?_) (fun c => ?_)
      · replace H := H.1 c
        refine gw_iconst (v := 1) CX.1 dModel_meet_54 (by decide) ?_
        exact gw_iret CX rfl (by decide) ⟨_, _, _, rfl, rfl, H⟩ (Nat.zero_le _) (Nat.zero_le _) dModel_meet_55
      · replace H := H.2 c
        exact H X CX
theorem bModel_meet_26 {D : va_G} {d : Nat} {Q : Int32 → (Nat → Nat → Int32) → (Nat → Int64) → Prop} {F : Nat → Nat → Int32} {G : Nat → Int64} {x1 : Int32} {x2 : Int32} {x3 : Int32} (H : ((30 ≤ (x3 + 1) → AWi D (d + 1) nModel_meet 2 [(0, .ref 39), (1, .int x1), (2, .int x2), (3, .int (x3 + 1))] [] F G Q) ∧ (¬ (30 ≤ (x3 + 1)) → AMi D d nModel_isFar [.ref 39, .int x1, .int x2, .int x3] F G (fun x1_ F1 G1 => ((¬ x1_ = 0 → Q 1 F1 G1) ∧ (x1_ = 0 → AMi D d nModel_isFar [.ref 39, .int x2, .int x1, .int x3] F1 G1 (fun x2_ F2 G2 => ((x2_ = 0 → AWi D (d + 1) nModel_meet 2 [(0, .ref 39), (1, .int x1), (2, .int x2), (3, .int (x3 + 1))] [] F2 G2 Q) ∧ (¬ (x2_ = 0) → Q 1 F2 G2))))))))) : AWi D (d + 1) nModel_meet 26 [(0, .ref 39), (1, .int x1), (2, .int x2), (3, .int x3)] [] F G Q := by
  intro X CX
  refine gw_iload_n CX.1 3 rfl dModel_meet_26 rfl ?_
  refine gw_iconst (v := 1) CX.1 dModel_meet_27 (by decide) ?_
  refine gw_iadd CX.1 dModel_meet_28 ?_
  refine gw_bipush (v := 30) CX.1 dModel_meet_29 (by decide) ?_
  refine gw_icmp_ge (tgt := 56) CX.1 dModel_meet_31 (by decide) (fun c => ?_) (fun c => ?_)
  · replace H := H.1 c
    refine gw_iinc (v := (x3 + 1)) CX.1 3 rfl dModel_meet_56 rfl (by decide) rfl ?_
    refine gw_goto (tgt := 2) CX.1 dModel_meet_59 (by decide) ?_
    exact gw_sub [1, 2, 3, 0] rfl (H X CX)
  · replace H := H.2 c
    refine gw_aload_n CX.1 0 rfl dModel_meet_34 rfl ?_
    refine gw_iload_n CX.1 1 rfl dModel_meet_35 rfl ?_
    refine gw_iload_n CX.1 2 rfl dModel_meet_36 rfl ?_
    refine gw_iload_n CX.1 3 rfl dModel_meet_37 rfl ?_
    refine cl_Model_isFar CX (Nat.le_of_ble_eq_true rfl) wm_Model_136 dModel_meet_38 H (fun x1_ F1 G1 H => ?_)
    refine gw_if_ne (tgt := 54) CX.1 dModel_meet_41 (by decide) (fun c => ?_) (fun c => ?_)
    · replace H := H.1 c
      refine gw_iconst (v := 1) CX.1 dModel_meet_54 (by decide) ?_
      exact gw_iret CX rfl (by decide) ⟨_, _, _, rfl, rfl, H⟩ (Nat.zero_le _) (Nat.zero_le _) dModel_meet_55
    · replace H := H.2 c
      refine gw_aload_n CX.1 0 rfl dModel_meet_44 rfl ?_
      refine gw_iload_n CX.1 2 rfl dModel_meet_45 rfl ?_
      refine gw_iload_n CX.1 1 rfl dModel_meet_46 rfl ?_
      refine gw_iload_n CX.1 3 rfl dModel_meet_47 rfl ?_
      refine cl_Model_isFar CX (Nat.le_of_ble_eq_true rfl) wm_Model_136 dModel_meet_48 H (fun x2_ F2 G2 H => ?_)
      refine gw_if_eq (tgt := 56) CX.1 dModel_meet_51 (by decide) (fun c => ?_) (fun c => ?_)
      · replace H := H.1 c
        refine gw_iinc (v := (x3 + 1)) CX.1 3 rfl dModel_meet_56 rfl (by decide) rfl ?_
        refine gw_goto (tgt := 2) CX.1 dModel_meet_59 (by decide) ?_
        exact gw_sub [1, 2, 3, 0] rfl (H X CX)
      · replace H := H.2 c
        refine gw_iconst (v := 1) CX.1 dModel_meet_54 (by decide) ?_
        exact gw_iret CX rfl (by decide) ⟨_, _, _, rfl, rfl, H⟩ (Nat.zero_le _) (Nat.zero_le _) dModel_meet_55
theorem eModel_meet {D : va_G} {d : Nat} {Q : Int32 → (Nat → Nat → Int32) → (Nat → Int64) → Prop} {F : Nat → Nat → Int32} {G : Nat → Int64} {a0 : Int32} {a1 : Int32} (H : AWi D (d + 1) nModel_meet 2 [(0, .ref 39), (1, .int a0), (2, .int a1), (3, .int 0)] [] F G Q) : AMi D (d + 1) nModel_meet [.ref 39, .int a0, .int a1] F G Q := by
  refine AM_intro (by decide) (Nat.le_of_ble_eq_true rfl) ?_
  intro X CX
  refine gw_iconst (v := 0) CX.1 dModel_meet_0 (by decide) ?_
  refine gw_istore_n CX.1 dModel_meet_1 rfl (by decide) rfl ?_
  exact gw_sub [1, 2, 3, 0] rfl (H X CX)
theorem eModel_isFar {D : va_G} {d : Nat} {Q : Int32 → (Nat → Nat → Int32) → (Nat → Int64) → Prop} {F : Nat → Nat → Int32} {G : Nat → Int64} {a0 : Int32} {a1 : Int32} {a2 : Int32} (H : AMi D d nModel_is [.ref 39, .int a0, .int a2] F G (fun x1_ F1 G1 => ((x1_ = 0 → Q 0 F1 G1) ∧ (¬ (x1_ = 0) → AMi D d nModel_is [.ref 39, .int a1, .int (a2 + 1)] F1 G1 (fun x2_ F2 G2 => ((x2_ = 0 → Q 0 F2 G2) ∧ (¬ (x2_ = 0) → vp_in ((30 * a0) + a2) 240 ∧ vp_in (((30 * a1) + a2) + 1) 240 ∧ AMi D d nModel_far [.int (F2 40 ((30 * a0) + a2).toNatClampNeg), .int (F2 40 (((30 * a1) + a2) + 1).toNatClampNeg)] F2 G2 (fun x3_ F3 G3 => ((x3_ ≤ 5 → Q 0 F3 G3) ∧ (¬ (x3_ ≤ 5) → Q 1 F3 G3)))))))))) : AMi D (d + 1) nModel_isFar [.ref 39, .int a0, .int a1, .int a2] F G Q := by
  refine AM_intro (by decide) (Nat.le_of_ble_eq_true rfl) ?_
  intro X CX
  refine gw_aload_n CX.1 0 rfl dModel_isFar_0 rfl ?_
  refine gw_iload_n CX.1 1 rfl dModel_isFar_1 rfl ?_
  refine gw_iload_n CX.1 3 rfl dModel_isFar_2 rfl ?_
  refine cl_Model_is CX (Nat.le_of_ble_eq_true rfl) wm_Model_99 dModel_isFar_3 H (fun x1_ F1 G1 H => ?_)
  refine gw_if_eq (tgt := 55) CX.1 dModel_isFar_6 (by decide) (fun c => ?_) (fun c => ?_)
  · replace H := H.1 c
    refine gw_iconst (v := 0) CX.1 dModel_isFar_55 (by decide) ?_
    exact gw_iret CX rfl (by decide) ⟨_, _, _, rfl, rfl, H⟩ (Nat.zero_le _) (Nat.zero_le _) dModel_isFar_56
  · replace H := H.2 c
    refine gw_aload_n CX.1 0 rfl dModel_isFar_9 rfl ?_
    refine gw_iload_n CX.1 2 rfl dModel_isFar_10 rfl ?_
    refine gw_iload_n CX.1 3 rfl dModel_isFar_11 rfl ?_
    refine gw_iconst (v := 1) CX.1 dModel_isFar_12 (by decide) ?_
    refine gw_iadd CX.1 dModel_isFar_13 ?_
    refine cl_Model_is CX (Nat.le_of_ble_eq_true rfl) wm_Model_99 dModel_isFar_14 H (fun x2_ F2 G2 H => ?_)
    refine gw_if_eq (tgt := 55) CX.1 dModel_isFar_17 (by decide) (fun c => ?_) (fun c => ?_)
    · replace H := H.1 c
      refine gw_iconst (v := 0) CX.1 dModel_isFar_55 (by decide) ?_
      exact gw_iret CX rfl (by decide) ⟨_, _, _, rfl, rfl, H⟩ (Nat.zero_le _) (Nat.zero_le _) dModel_isFar_56
    · replace H := H.2 c
      refine gw_aload_n CX.1 0 rfl dModel_isFar_20 rfl ?_
      refine gg_Model_13 CX.1 rfl dModel_isFar_21 ?_
      refine gw_bipush (v := 30) CX.1 dModel_isFar_24 (by decide) ?_
      refine gw_iload_n CX.1 1 rfl dModel_isFar_26 rfl ?_
      refine gw_imul CX.1 dModel_isFar_27 ?_
      refine gw_iload_n CX.1 3 rfl dModel_isFar_28 rfl ?_
      refine gw_iadd CX.1 dModel_isFar_29 ?_
      obtain ⟨hin, H⟩ := H
      refine ga_40 CX.1 hin dModel_isFar_30 ?_
      refine gw_aload_n CX.1 0 rfl dModel_isFar_31 rfl ?_
      refine gg_Model_13 CX.1 rfl dModel_isFar_32 ?_
      refine gw_bipush (v := 30) CX.1 dModel_isFar_35 (by decide) ?_
      refine gw_iload_n CX.1 2 rfl dModel_isFar_37 rfl ?_
      refine gw_imul CX.1 dModel_isFar_38 ?_
      refine gw_iload_n CX.1 3 rfl dModel_isFar_39 rfl ?_
      refine gw_iadd CX.1 dModel_isFar_40 ?_
      refine gw_iconst (v := 1) CX.1 dModel_isFar_41 (by decide) ?_
      refine gw_iadd CX.1 dModel_isFar_42 ?_
      obtain ⟨hin, H⟩ := H
      refine ga_40 CX.1 hin dModel_isFar_43 ?_
      refine cl_Model_far CX (Nat.le_of_ble_eq_true rfl) wm_Model_132 dModel_isFar_44 H (fun x3_ F3 G3 H => ?_)
      refine gw_iconst (v := 5) CX.1 dModel_isFar_47 (by decide) ?_
      refine gw_icmp_le (tgt := 55) CX.1 dModel_isFar_48 (by decide) (fun c => ?_) (fun c => ?_)
      · replace H := H.1 c
        refine gw_iconst (v := 0) CX.1 dModel_isFar_55 (by decide) ?_
        exact gw_iret CX rfl (by decide) ⟨_, _, _, rfl, rfl, H⟩ (Nat.zero_le _) (Nat.zero_le _) dModel_isFar_56
      · replace H := H.2 c
        refine gw_iconst (v := 1) CX.1 dModel_isFar_51 (by decide) ?_
        refine gw_goto (tgt := 56) CX.1 dModel_isFar_52 (by decide) ?_
        exact gw_iret CX rfl (by decide) ⟨_, _, _, rfl, rfl, H⟩ (Nat.zero_le _) (Nat.zero_le _) dModel_isFar_56
theorem bModel_areBeside_2 {D : va_G} {d : Nat} {Q : Int32 → (Nat → Nat → Int32) → (Nat → Int64) → Prop} {F : Nat → Nat → Int32} {G : Nat → Int64} {x1 : Int32} {x2 : Int32} {x3 : Int32} (H : ((30 ≤ x3 → Q 0 F G) ∧ (¬ (30 ≤ x3) → AMi D d nModel_is [.ref 39, .int x1, .int x3] F G (fun x1_ F1 G1 => ((x1_ = 0 → AWi D (d + 1) nModel_areBeside 2 [(0, .ref 39), (1, .int x1), (2, .int x2), (3, .int (x3 + 1))] [] F1 G1 Q) ∧ (¬ (x1_ = 0) → AMi D d nModel_is [.ref 39, .int x2, .int x3] F1 G1 (fun x2_ F2 G2 => ((x2_ = 0 → AWi D (d + 1) nModel_areBeside 2 [(0, .ref 39), (1, .int x1), (2, .int x2), (3, .int (x3 + 1))] [] F2 G2 Q) ∧ (¬ (x2_ = 0) → vp_in ((30 * x1) + x3) 240 ∧ vp_in ((30 * x2) + x3) 240 ∧ AMi D d nModel_far [.int (F2 40 ((30 * x1) + x3).toNatClampNeg), .int (F2 40 ((30 * x2) + x3).toNatClampNeg)] F2 G2 (fun x3_ F3 G3 => ((2 ≤ x3_ → AWi D (d + 1) nModel_areBeside 2 [(0, .ref 39), (1, .int x1), (2, .int x2), (3, .int (x3 + 1))] [] F3 G3 Q) ∧ (¬ (2 ≤ x3_) → Q 1 F3 G3)))))))))))) : AWi D (d + 1) nModel_areBeside 2 [(0, .ref 39), (1, .int x1), (2, .int x2), (3, .int x3)] [] F G Q := by
  intro X CX
  refine gw_iload_n CX.1 3 rfl dModel_areBeside_2 rfl ?_
  refine gw_bipush (v := 30) CX.1 dModel_areBeside_3 (by decide) ?_
  refine gw_icmp_ge (tgt := 63) CX.1 dModel_areBeside_5 (by decide) (fun c => ?_) (fun c => ?_)
  · replace H := H.1 c
    refine gw_iconst (v := 0) CX.1 dModel_areBeside_63 (by decide) ?_
    exact gw_iret CX rfl (by decide) ⟨_, _, _, rfl, rfl, H⟩ (Nat.zero_le _) (Nat.zero_le _) dModel_areBeside_64
  · replace H := H.2 c
    refine gw_aload_n CX.1 0 rfl dModel_areBeside_8 rfl ?_
    refine gw_iload_n CX.1 1 rfl dModel_areBeside_9 rfl ?_
    refine gw_iload_n CX.1 3 rfl dModel_areBeside_10 rfl ?_
    refine cl_Model_is CX (Nat.le_of_ble_eq_true rfl) wm_Model_99 dModel_areBeside_11 H (fun x1_ F1 G1 H => ?_)
    refine gw_if_eq (tgt := 57) CX.1 dModel_areBeside_14 (by decide) (fun c => ?_) (fun c => ?_)
    · replace H := H.1 c
      refine gw_iinc (v := (x3 + 1)) CX.1 3 rfl dModel_areBeside_57 rfl (by decide) rfl ?_
      refine gw_goto (tgt := 2) CX.1 dModel_areBeside_60 (by decide) ?_
      exact gw_sub [1, 2, 3, 0] rfl (H X CX)
    · replace H := H.2 c
      refine gw_aload_n CX.1 0 rfl dModel_areBeside_17 rfl ?_
      refine gw_iload_n CX.1 2 rfl dModel_areBeside_18 rfl ?_
      refine gw_iload_n CX.1 3 rfl dModel_areBeside_19 rfl ?_
      refine cl_Model_is CX (Nat.le_of_ble_eq_true rfl) wm_Model_99 dModel_areBeside_20 H (fun x2_ F2 G2 H => ?_)
      refine gw_if_eq (tgt := 57) CX.1 dModel_areBeside_23 (by decide) (fun c => ?_) (fun c => ?_)
      · replace H := H.1 c
        refine gw_iinc (v := (x3 + 1)) CX.1 3 rfl dModel_areBeside_57 rfl (by decide) rfl ?_
        refine gw_goto (tgt := 2) CX.1 dModel_areBeside_60 (by decide) ?_
        exact gw_sub [1, 2, 3, 0] rfl (H X CX)
      · replace H := H.2 c
        refine gw_aload_n CX.1 0 rfl dModel_areBeside_26 rfl ?_
        refine gg_Model_13 CX.1 rfl dModel_areBeside_27 ?_
        refine gw_bipush (v := 30) CX.1 dModel_areBeside_30 (by decide) ?_
        refine gw_iload_n CX.1 1 rfl dModel_areBeside_32 rfl ?_
        refine gw_imul CX.1 dModel_areBeside_33 ?_
        refine gw_iload_n CX.1 3 rfl dModel_areBeside_34 rfl ?_
        refine gw_iadd CX.1 dModel_areBeside_35 ?_
        obtain ⟨hin, H⟩ := H
        refine ga_40 CX.1 hin dModel_areBeside_36 ?_
        refine gw_aload_n CX.1 0 rfl dModel_areBeside_37 rfl ?_
        refine gg_Model_13 CX.1 rfl dModel_areBeside_38 ?_
        refine gw_bipush (v := 30) CX.1 dModel_areBeside_41 (by decide) ?_
        refine gw_iload_n CX.1 2 rfl dModel_areBeside_43 rfl ?_
        refine gw_imul CX.1 dModel_areBeside_44 ?_
        refine gw_iload_n CX.1 3 rfl dModel_areBeside_45 rfl ?_
        refine gw_iadd CX.1 dModel_areBeside_46 ?_
        obtain ⟨hin, H⟩ := H
        refine ga_40 CX.1 hin dModel_areBeside_47 ?_
        refine cl_Model_far CX (Nat.le_of_ble_eq_true rfl) wm_Model_132 dModel_areBeside_48 H (fun x3_ F3 G3 H => ?_)
        refine gw_iconst (v := 2) CX.1 dModel_areBeside_51 (by decide) ?_
        refine gw_icmp_ge (tgt := 57) CX.1 dModel_areBeside_52 (by decide) (fun c => ?_) (fun c => ?_)
        · replace H := H.1 c
          refine gw_iinc (v := (x3 + 1)) CX.1 3 rfl dModel_areBeside_57 rfl (by decide) rfl ?_
          refine gw_goto (tgt := 2) CX.1 dModel_areBeside_60 (by decide) ?_
          exact gw_sub [1, 2, 3, 0] rfl (H X CX)
        · replace H := H.2 c
          refine gw_iconst (v := 1) CX.1 dModel_areBeside_55 (by decide) ?_
          exact gw_iret CX rfl (by decide) ⟨_, _, _, rfl, rfl, H⟩ (Nat.zero_le _) (Nat.zero_le _) dModel_areBeside_56
theorem eModel_areBeside {D : va_G} {d : Nat} {Q : Int32 → (Nat → Nat → Int32) → (Nat → Int64) → Prop} {F : Nat → Nat → Int32} {G : Nat → Int64} {a0 : Int32} {a1 : Int32} (H : AWi D (d + 1) nModel_areBeside 2 [(0, .ref 39), (1, .int a0), (2, .int a1), (3, .int 0)] [] F G Q) : AMi D (d + 1) nModel_areBeside [.ref 39, .int a0, .int a1] F G Q := by
  refine AM_intro (by decide) (Nat.le_of_ble_eq_true rfl) ?_
  intro X CX
  refine gw_iconst (v := 0) CX.1 dModel_areBeside_0 (by decide) ?_
  refine gw_istore_n CX.1 dModel_areBeside_1 rfl (by decide) rfl ?_
  exact gw_sub [1, 2, 3, 0] rfl (H X CX)
theorem eModel_has {D : va_G} {d : Nat} {Q : Int32 → (Nat → Nat → Int32) → (Nat → Int64) → Prop} {F : Nat → Nat → Int32} {G : Nat → Int64} {a0 : Int32} (H : AMi D d nModel_isTrack [.ref 39, .int a0] F G (fun x1_ F1 G1 => ((¬ x1_ = 0 → (((F1 113 0) = 0 → Q (-1000000005) F1 G1) ∧ (¬ ((F1 113 0) = 0) → vp_in a0 8 ∧ (((F1 51 a0.toNatClampNeg) < 0 → Q (-1000000005) F1 G1) ∧ (¬ ((F1 51 a0.toNatClampNeg) < 0) → vp_in a0 8 ∧ Q (F1 51 a0.toNatClampNeg) F1 G1))))) ∧ (x1_ = 0 → Q (-1000000001) F1 G1)))) : AMi D (d + 1) nModel_has [.ref 39, .int a0] F G Q := by
  refine AM_intro (by decide) (Nat.le_of_ble_eq_true rfl) ?_
  intro X CX
  refine gw_aload_n CX.1 0 rfl dModel_has_0 rfl ?_
  refine gw_iload_n CX.1 1 rfl dModel_has_1 rfl ?_
  refine cl_Model_isTrack CX (Nat.le_of_ble_eq_true rfl) wm_Model_87 dModel_has_2 H (fun x1_ F1 G1 H => ?_)
  refine gw_if_ne (tgt := 11) CX.1 dModel_has_5 (by decide) (fun c => ?_) (fun c => ?_)
  · replace H := H.1 c
    refine gw_aload_n CX.1 0 rfl dModel_has_11 rfl ?_
    refine gg_Model_128 CX.1 rfl dModel_has_12 ?_
    refine gw_if_eq (tgt := 36) CX.1 dModel_has_15 (by decide) (fun c => ?_) (fun c => ?_)
    · replace H := H.1 c
      refine gw_ldc CX.1 wc_Model_94 dModel_has_36 ?_
      exact gw_iret CX rfl rfl ⟨_, _, _, rfl, rfl, H⟩ (Nat.zero_le _) (Nat.zero_le _) dModel_has_38
    · replace H := H.2 c
      refine gw_aload_n CX.1 0 rfl dModel_has_18 rfl ?_
      refine gg_Model_46 CX.1 rfl dModel_has_19 ?_
      refine gw_iload_n CX.1 1 rfl dModel_has_22 rfl ?_
      obtain ⟨hin, H⟩ := H
      refine ga_51 CX.1 hin dModel_has_23 ?_
      refine gw_if_lt (tgt := 36) CX.1 dModel_has_24 (by decide) (fun c => ?_) (fun c => ?_)
      · replace H := H.1 c
        refine gw_ldc CX.1 wc_Model_94 dModel_has_36 ?_
        exact gw_iret CX rfl rfl ⟨_, _, _, rfl, rfl, H⟩ (Nat.zero_le _) (Nat.zero_le _) dModel_has_38
      · replace H := H.2 c
        refine gw_aload_n CX.1 0 rfl dModel_has_27 rfl ?_
        refine gg_Model_46 CX.1 rfl dModel_has_28 ?_
        refine gw_iload_n CX.1 1 rfl dModel_has_31 rfl ?_
        obtain ⟨hin, H⟩ := H
        refine ga_51 CX.1 hin dModel_has_32 ?_
        refine gw_goto (tgt := 38) CX.1 dModel_has_33 (by decide) ?_
        exact gw_iret CX rfl rfl ⟨_, _, _, rfl, rfl, H⟩ (Nat.zero_le _) (Nat.zero_le _) dModel_has_38
  · replace H := H.2 c
    refine gw_ldc CX.1 wc_Model_85 dModel_has_8 ?_
    exact gw_iret CX rfl rfl ⟨_, _, _, rfl, rfl, H⟩ (Nat.zero_le _) (Nat.zero_le _) dModel_has_10
theorem bModel_who_24 {D : va_G} {d : Nat} {Q : Int32 → (Nat → Nat → Int32) → (Nat → Int64) → Prop} {F : Nat → Nat → Int32} {G : Nat → Int64} {x1 : Int32} {x2 : Int32} {x3 : Int32} (H : (((F 110 0) ≤ x3 → Q x2 F G) ∧ (¬ ((F 110 0) ≤ x3) → vp_in ((30 * x3) + x1) 240 ∧ AMi D d nModel_is [.ref 39, .int x3, .int x1] F G (fun x1_ F1 G1 => ((x1_ = 0 → AWi D (d + 1) nModel_who 24 [(0, .ref 39), (1, .int x1), (2, .int (x2 ||| 0)), (3, .int (x3 + 1))] [] F1 G1 Q) ∧ (¬ (x1_ = 0) → (((F 52 ((30 * x3) + x1).toNatClampNeg) < 0 → AWi D (d + 1) nModel_who 24 [(0, .ref 39), (1, .int x1), (2, .int (x2 ||| 0)), (3, .int (x3 + 1))] [] F1 G1 Q) ∧ (¬ ((F 52 ((30 * x3) + x1).toNatClampNeg) < 0) → AWi D (d + 1) nModel_who 24 [(0, .ref 39), (1, .int x1), (2, .int (x2 ||| (1 <<< ((F 52 ((30 * x3) + x1).toNatClampNeg) &&& 31)))), (3, .int (x3 + 1))] [] F1 G1 Q)))))))) : AWi D (d + 1) nModel_who 24 [(0, .ref 39), (1, .int x1), (2, .int x2), (3, .int x3)] [] F G Q := by
  intro X CX
  refine gw_iload_n CX.1 3 rfl dModel_who_24 rfl ?_
  refine gw_aload_n CX.1 0 rfl dModel_who_25 rfl ?_
  refine gg_Model_74 CX.1 rfl dModel_who_26 ?_
  refine gw_icmp_ge (tgt := 76) CX.1 dModel_who_29 (by decide) (fun c => ?_) (fun c => ?_)
  · replace H := H.1 c
    refine gw_iload_n CX.1 2 rfl dModel_who_76 rfl ?_
    exact gw_iret CX rfl rfl ⟨_, _, _, rfl, rfl, H⟩ (Nat.zero_le _) (Nat.zero_le _) dModel_who_77
  · replace H := H.2 c
    refine gw_aload_n CX.1 0 rfl dModel_who_32 rfl ?_
    refine gg_Model_49 CX.1 rfl dModel_who_33 ?_
    refine gw_bipush (v := 30) CX.1 dModel_who_36 (by decide) ?_
    refine gw_iload_n CX.1 3 rfl dModel_who_38 rfl ?_
    refine gw_imul CX.1 dModel_who_39 ?_
    refine gw_iload_n CX.1 1 rfl dModel_who_40 rfl ?_
    refine gw_iadd CX.1 dModel_who_41 ?_
    obtain ⟨hin, H⟩ := H
    refine ga_52 CX.1 hin dModel_who_42 ?_
    refine gw_istore CX.1 dModel_who_43 (by decide) rfl ?_
    refine gw_iload_n CX.1 3 rfl dModel_who_45 rfl ?_
    refine gw_aload_n CX.1 1 rfl dModel_who_46 rfl ?_
    refine gw_iload_n CX.1 4 rfl dModel_who_47 rfl ?_
    refine gw_iload_n CX.1 2 rfl dModel_who_48 rfl ?_
    refine cl_Model_is CX (Nat.le_of_ble_eq_true rfl) wm_Model_99 dModel_who_49 H (fun x1_ F1 G1 H => ?_)
    refine gw_if_eq (tgt := 67) CX.1 dModel_who_52 (by decide) (fun c => ?_) (fun c => ?_)
    · replace H := H.1 c
      refine gw_iconst (v := 0) CX.1 dModel_who_67 (by decide) ?_
      refine gw_ior CX.1 dModel_who_68 ?_
      refine gw_istore_n CX.1 dModel_who_69 rfl (by decide) rfl ?_
      refine gw_iinc (v := (x3 + 1)) CX.1 4 rfl dModel_who_70 rfl (by decide) rfl ?_
      refine gw_goto (tgt := 24) CX.1 dModel_who_73 (by decide) ?_
      exact gw_sub [3, 4, 1, 0] rfl (H X CX)
    · replace H := H.2 c
      refine gw_iload CX.1 0 rfl dModel_who_55 ?_
      refine gw_if_lt (tgt := 67) CX.1 dModel_who_57 (by decide) (fun c => ?_) (fun c => ?_)
      · replace H := H.1 c
        refine gw_iconst (v := 0) CX.1 dModel_who_67 (by decide) ?_
        refine gw_ior CX.1 dModel_who_68 ?_
        refine gw_istore_n CX.1 dModel_who_69 rfl (by decide) rfl ?_
        refine gw_iinc (v := (x3 + 1)) CX.1 4 rfl dModel_who_70 rfl (by decide) rfl ?_
        refine gw_goto (tgt := 24) CX.1 dModel_who_73 (by decide) ?_
        exact gw_sub [3, 4, 1, 0] rfl (H X CX)
      · replace H := H.2 c
        refine gw_iconst (v := 1) CX.1 dModel_who_60 (by decide) ?_
        refine gw_iload CX.1 0 rfl dModel_who_61 ?_
        refine gw_ishl CX.1 dModel_who_63 ?_
        refine gw_goto (tgt := 68) CX.1 dModel_who_64 (by decide) ?_
        refine gw_ior CX.1 dModel_who_68 ?_
        refine gw_istore_n CX.1 dModel_who_69 rfl (by decide) rfl ?_
        refine gw_iinc (v := (x3 + 1)) CX.1 4 rfl dModel_who_70 rfl (by decide) rfl ?_
        refine gw_goto (tgt := 24) CX.1 dModel_who_73 (by decide) ?_
        exact gw_sub [3, 4, 1, 0] rfl (H X CX)
theorem eModel_who {D : va_G} {d : Nat} {Q : Int32 → (Nat → Nat → Int32) → (Nat → Int64) → Prop} {F : Nat → Nat → Int32} {G : Nat → Int64} {a0 : Int32} (H : AMi D d nModel_isCue [.int a0] F G (fun x1_ F1 G1 => ((¬ x1_ = 0 → ((¬ (F1 113 0) = 0 → AWi D (d + 1) nModel_who 24 [(0, .ref 39), (1, .int a0), (2, .int 0), (3, .int 0)] [] F1 G1 Q) ∧ ((F1 113 0) = 0 → Q (-1000000002) F1 G1))) ∧ (x1_ = 0 → Q (-1000000001) F1 G1)))) : AMi D (d + 1) nModel_who [.ref 39, .int a0] F G Q := by
  refine AM_intro (by decide) (Nat.le_of_ble_eq_true rfl) ?_
  intro X CX
  refine gw_iload_n CX.1 1 rfl dModel_who_0 rfl ?_
  refine cl_Model_isCue CX (Nat.le_of_ble_eq_true rfl) wm_Model_91 dModel_who_1 H (fun x1_ F1 G1 H => ?_)
  refine gw_if_ne (tgt := 10) CX.1 dModel_who_4 (by decide) (fun c => ?_) (fun c => ?_)
  · replace H := H.1 c
    refine gw_aload_n CX.1 0 rfl dModel_who_10 rfl ?_
    refine gg_Model_128 CX.1 rfl dModel_who_11 ?_
    refine gw_if_ne (tgt := 20) CX.1 dModel_who_14 (by decide) (fun c => ?_) (fun c => ?_)
    · replace H := H.1 c
      refine gw_iconst (v := 0) CX.1 dModel_who_20 (by decide) ?_
      refine gw_istore_n CX.1 dModel_who_21 rfl (by decide) rfl ?_
      refine gw_iconst (v := 0) CX.1 dModel_who_22 (by decide) ?_
      refine gw_istore_n CX.1 dModel_who_23 rfl (by decide) rfl ?_
      exact gw_sub [2, 3, 1, 0] rfl (H X CX)
    · replace H := H.2 c
      refine gw_ldc CX.1 wc_Model_103 dModel_who_17 ?_
      exact gw_iret CX rfl rfl ⟨_, _, _, rfl, rfl, H⟩ (Nat.zero_le _) (Nat.zero_le _) dModel_who_19
  · replace H := H.2 c
    refine gw_ldc CX.1 wc_Model_85 dModel_who_7 ?_
    exact gw_iret CX rfl rfl ⟨_, _, _, rfl, rfl, H⟩ (Nat.zero_le _) (Nat.zero_le _) dModel_who_9
theorem eModel_done {D : va_G} {d : Nat} {Q : Int32 → (Nat → Nat → Int32) → (Nat → Int64) → Prop} {F : Nat → Nat → Int32} {G : Nat → Int64} {a0 : Int32} (H : AMi D d nModel_isCue [.int a0] F G (fun x1_ F1 G1 => ((¬ x1_ = 0 → vp_in a0 30 ∧ ((0 ≤ (F1 42 a0.toNatClampNeg) → ((¬ (F1 113 0) = 0 → AMi D d nModel_isDone [.ref 39, .int a0, .ref 52] F1 G1 (fun x2_ F2 G2 => ((x2_ = 0 → Q 0 F2 G2) ∧ (¬ (x2_ = 0) → Q 1 F2 G2)))) ∧ ((F1 113 0) = 0 → Q (-1000000002) F1 G1))) ∧ (¬ (0 ≤ (F1 42 a0.toNatClampNeg)) → Q (-1000000005) F1 G1))) ∧ (x1_ = 0 → Q (-1000000001) F1 G1)))) : AMi D (d + 1) nModel_done [.ref 39, .int a0] F G Q := by
  refine AM_intro (by decide) (Nat.le_of_ble_eq_true rfl) ?_
  intro X CX
  refine gw_iload_n CX.1 1 rfl dModel_done_0 rfl ?_
  refine cl_Model_isCue CX (Nat.le_of_ble_eq_true rfl) wm_Model_91 dModel_done_1 H (fun x1_ F1 G1 H => ?_)
  refine gw_if_ne (tgt := 10) CX.1 dModel_done_4 (by decide) (fun c => ?_) (fun c => ?_)
  · replace H := H.1 c
    refine gw_aload_n CX.1 0 rfl dModel_done_10 rfl ?_
    refine gg_Model_19 CX.1 rfl dModel_done_11 ?_
    refine gw_iload_n CX.1 1 rfl dModel_done_14 rfl ?_
    obtain ⟨hin, H⟩ := H
    refine ga_42 CX.1 hin dModel_done_15 ?_
    refine gw_if_ge (tgt := 22) CX.1 dModel_done_16 (by decide) (fun c => ?_) (fun c => ?_)
    · replace H := H.1 c
      refine gw_aload_n CX.1 0 rfl dModel_done_22 rfl ?_
      refine gg_Model_128 CX.1 rfl dModel_done_23 ?_
      refine gw_if_ne (tgt := 34) CX.1 dModel_done_26 (by decide) (fun c => ?_) (fun c => ?_)
      · replace H := H.1 c
        refine gw_aload_n CX.1 0 rfl dModel_done_34 rfl ?_
        refine gw_iload_n CX.1 1 rfl dModel_done_35 rfl ?_
        refine gw_aload_n CX.1 0 rfl dModel_done_36 rfl ?_
        refine gg_Model_46 CX.1 rfl dModel_done_37 ?_
        refine cl_Model_isDone_1 CX (Nat.le_of_ble_eq_true rfl) wm_Model_157 dModel_done_40 H (fun x2_ F2 G2 H => ?_)
        refine gw_if_eq (tgt := 50) CX.1 dModel_done_43 (by decide) (fun c => ?_) (fun c => ?_)
        · replace H := H.1 c
          refine gw_iconst (v := 0) CX.1 dModel_done_50 (by decide) ?_
          exact gw_iret CX rfl rfl ⟨_, _, _, rfl, rfl, H⟩ (Nat.zero_le _) (Nat.zero_le _) dModel_done_51
        · replace H := H.2 c
          refine gw_iconst (v := 1) CX.1 dModel_done_46 (by decide) ?_
          refine gw_goto (tgt := 51) CX.1 dModel_done_47 (by decide) ?_
          exact gw_iret CX rfl rfl ⟨_, _, _, rfl, rfl, H⟩ (Nat.zero_le _) (Nat.zero_le _) dModel_done_51
      · replace H := H.2 c
        refine gw_ldc CX.1 wc_Model_103 dModel_done_29 ?_
        refine gw_goto (tgt := 51) CX.1 dModel_done_31 (by decide) ?_
        exact gw_iret CX rfl rfl ⟨_, _, _, rfl, rfl, H⟩ (Nat.zero_le _) (Nat.zero_le _) dModel_done_51
    · replace H := H.2 c
      refine gw_ldc CX.1 wc_Model_94 dModel_done_19 ?_
      exact gw_iret CX rfl rfl ⟨_, _, _, rfl, rfl, H⟩ (Nat.zero_le _) (Nat.zero_le _) dModel_done_21
  · replace H := H.2 c
    refine gw_ldc CX.1 wc_Model_85 dModel_done_7 ?_
    exact gw_iret CX rfl rfl ⟨_, _, _, rfl, rfl, H⟩ (Nat.zero_le _) (Nat.zero_le _) dModel_done_9
theorem bModel_hurt_40 {D : va_G} {d : Nat} {Q : Int32 → (Nat → Nat → Int32) → (Nat → Int64) → Prop} {F : Nat → Nat → Int32} {G : Nat → Int64} {x1 : Int32} {x2 : Int32} {x3 : Int32} {x4 : Int32} (H : (((F 110 0) ≤ x4 → Q x3 F G) ∧ (¬ ((F 110 0) ≤ x4) → AWi D (d + 1) nModel_hurt 52 [(0, .ref 39), (1, .int x1), (2, .int x2), (3, .int x3), (4, .int x4), (5, .int x2)] [] F G Q))) : AWi D (d + 1) nModel_hurt 40 [(0, .ref 39), (1, .int x1), (2, .int x2), (3, .int x3), (4, .int x4)] [] F G Q := by
  intro X CX
  refine gw_iload CX.1 4 rfl dModel_hurt_40 ?_
  refine gw_aload_n CX.1 0 rfl dModel_hurt_42 rfl ?_
  refine gg_Model_74 CX.1 rfl dModel_hurt_43 ?_
  refine gw_icmp_ge (tgt := 114) CX.1 dModel_hurt_46 (by decide) (fun c => ?_) (fun c => ?_)
  · replace H := H.1 c
    refine gw_iload_n CX.1 3 rfl dModel_hurt_114 rfl ?_
    exact gw_iret CX rfl rfl ⟨_, _, _, rfl, rfl, H⟩ (Nat.zero_le _) (Nat.zero_le _) dModel_hurt_115
  · replace H := H.2 c
    refine gw_iload_n CX.1 2 rfl dModel_hurt_49 rfl ?_
    refine gw_istore CX.1 dModel_hurt_50 (by decide) rfl ?_
    exact gw_sub [1, 2, 3, 4, 5, 0] rfl (H X CX)
theorem bModel_hurt_52 {D : va_G} {d : Nat} {Q : Int32 → (Nat → Nat → Int32) → (Nat → Int64) → Prop} {F : Nat → Nat → Int32} {G : Nat → Int64} {x1 : Int32} {x2 : Int32} {x3 : Int32} {x4 : Int32} {x5 : Int32} (H : ((30 ≤ x5 → AWi D (d + 1) nModel_hurt 82 [(0, .ref 39), (1, .int x1), (2, .int x2), (3, .int x3), (4, .int x4), (5, .int x5)] [] F G Q) ∧ (¬ (30 ≤ x5) → vp_in ((30 * x4) + x5) 240 ∧ (((F 52 ((30 * x4) + x5).toNatClampNeg) = x1 → AWi D (d + 1) nModel_hurt 82 [(0, .ref 39), (1, .int x1), (2, .int x2), (3, .int x3), (4, .int x4), (5, .int x5)] [] F G Q) ∧ (¬ ((F 52 ((30 * x4) + x5).toNatClampNeg) = x1) → AWi D (d + 1) nModel_hurt 52 [(0, .ref 39), (1, .int x1), (2, .int x2), (3, .int x3), (4, .int x4), (5, .int (x5 + 1))] [] F G Q))))) : AWi D (d + 1) nModel_hurt 52 [(0, .ref 39), (1, .int x1), (2, .int x2), (3, .int x3), (4, .int x4), (5, .int x5)] [] F G Q := by
  intro X CX
  refine gw_iload CX.1 5 rfl dModel_hurt_52 ?_
  refine gw_bipush (v := 30) CX.1 dModel_hurt_54 (by decide) ?_
  refine gw_icmp_ge (tgt := 82) CX.1 dModel_hurt_56 (by decide) (fun c => ?_) (fun c => ?_)
  · replace H := H.1 c
    exact H X CX
  · replace H := H.2 c
    refine gw_aload_n CX.1 0 rfl dModel_hurt_59 rfl ?_
    refine gg_Model_49 CX.1 rfl dModel_hurt_60 ?_
    refine gw_bipush (v := 30) CX.1 dModel_hurt_63 (by decide) ?_
    refine gw_iload CX.1 4 rfl dModel_hurt_65 ?_
    refine gw_imul CX.1 dModel_hurt_67 ?_
    refine gw_iload CX.1 5 rfl dModel_hurt_68 ?_
    refine gw_iadd CX.1 dModel_hurt_70 ?_
    obtain ⟨hin, H⟩ := H
    refine ga_52 CX.1 hin dModel_hurt_71 ?_
    refine gw_iload_n CX.1 1 rfl dModel_hurt_72 rfl ?_
    refine gw_icmp_eq (tgt := 82) CX.1 dModel_hurt_73 (by decide) (fun c => ?_) (fun c => ?_)
    · replace H := H.1 c
      exact H X CX
    · replace H := H.2 c
      refine gw_iinc (v := (x5 + 1)) CX.1 5 rfl dModel_hurt_76 rfl (by decide) rfl ?_
      refine gw_goto (tgt := 52) CX.1 dModel_hurt_79 (by decide) ?_
      exact gw_sub [1, 2, 3, 4, 5, 0] rfl (H X CX)
theorem bModel_hurt_82 {D : va_G} {d : Nat} {Q : Int32 → (Nat → Nat → Int32) → (Nat → Int64) → Prop} {F : Nat → Nat → Int32} {G : Nat → Int64} {x1 : Int32} {x2 : Int32} {x3 : Int32} {x4 : Int32} {x5 : Int32} (H : ((30 ≤ x5 → AWi D (d + 1) nModel_hurt 40 [(0, .ref 39), (1, .int x1), (2, .int x2), (3, .int x3), (4, .int (x4 + 1))] [] F G Q) ∧ (¬ (30 ≤ x5) → AMi D d nModel_takesOver [.ref 39, .int x4, .int x5] F G (fun x1_ F1 G1 => ((x1_ = 0 → AWi D (d + 1) nModel_hurt 40 [(0, .ref 39), (1, .int x1), (2, .int x2), (3, .int (x3 + 0)), (4, .int (x4 + 1))] [] F1 G1 Q) ∧ (¬ (x1_ = 0) → AWi D (d + 1) nModel_hurt 40 [(0, .ref 39), (1, .int x1), (2, .int x2), (3, .int (x3 + 1)), (4, .int (x4 + 1))] [] F1 G1 Q)))))) : AWi D (d + 1) nModel_hurt 82 [(0, .ref 39), (1, .int x1), (2, .int x2), (3, .int x3), (4, .int x4), (5, .int x5)] [] F G Q := by
  intro X CX
  refine gw_iload CX.1 5 rfl dModel_hurt_82 ?_
  refine gw_bipush (v := 30) CX.1 dModel_hurt_84 (by decide) ?_
  refine gw_icmp_ge (tgt := 108) CX.1 dModel_hurt_86 (by decide) (fun c => ?_) (fun c => ?_)
  · replace H := H.1 c
    refine gw_iinc (v := (x4 + 1)) CX.1 4 rfl dModel_hurt_108 rfl (by decide) rfl ?_
    refine gw_goto (tgt := 40) CX.1 dModel_hurt_111 (by decide) ?_
    exact gw_sub [1, 2, 3, 4, 0] rfl (H X CX)
  · replace H := H.2 c
    refine gw_iload_n CX.1 3 rfl dModel_hurt_89 rfl ?_
    refine gw_aload_n CX.1 0 rfl dModel_hurt_90 rfl ?_
    refine gw_iload CX.1 4 rfl dModel_hurt_91 ?_
    refine gw_iload CX.1 5 rfl dModel_hurt_93 ?_
    refine cl_Model_takesOver CX (Nat.le_of_ble_eq_true rfl) wm_Model_185 dModel_hurt_95 H (fun x1_ F1 G1 H => ?_)
    refine gw_if_eq (tgt := 105) CX.1 dModel_hurt_98 (by decide) (fun c => ?_) (fun c => ?_)
    · replace H := H.1 c
      refine gw_iconst (v := 0) CX.1 dModel_hurt_105 (by decide) ?_
      refine gw_iadd CX.1 dModel_hurt_106 ?_
      refine gw_istore_n CX.1 dModel_hurt_107 rfl (by decide) rfl ?_
      refine gw_iinc (v := (x4 + 1)) CX.1 4 rfl dModel_hurt_108 rfl (by decide) rfl ?_
      refine gw_goto (tgt := 40) CX.1 dModel_hurt_111 (by decide) ?_
      exact gw_sub [2, 3, 4, 1, 0] rfl (H X CX)
    · replace H := H.2 c
      refine gw_iconst (v := 1) CX.1 dModel_hurt_101 (by decide) ?_
      refine gw_goto (tgt := 106) CX.1 dModel_hurt_102 (by decide) ?_
      refine gw_iadd CX.1 dModel_hurt_106 ?_
      refine gw_istore_n CX.1 dModel_hurt_107 rfl (by decide) rfl ?_
      refine gw_iinc (v := (x4 + 1)) CX.1 4 rfl dModel_hurt_108 rfl (by decide) rfl ?_
      refine gw_goto (tgt := 40) CX.1 dModel_hurt_111 (by decide) ?_
      exact gw_sub [2, 3, 4, 1, 0] rfl (H X CX)
theorem eModel_hurt {D : va_G} {d : Nat} {Q : Int32 → (Nat → Nat → Int32) → (Nat → Int64) → Prop} {F : Nat → Nat → Int32} {G : Nat → Int64} {a0 : Int32} {a1 : Int32} (H : AMi D d nModel_isPerson [.ref 39, .int a0] F G (fun x1_ F1 G1 => ((x1_ = 0 → Q (-1000000001) F1 G1) ∧ (¬ (x1_ = 0) → AMi D d nModel_isCue [.int a1] F1 G1 (fun x2_ F2 G2 => ((¬ x2_ = 0 → ((¬ (F2 113 0) = 0 → vp_in a0 10 ∧ AWi D (d + 1) nModel_hurt 40 [(0, .ref 39), (1, .int a0), (2, .int a1), (3, .int 0), (4, .int 0)] [] (up F2 50 (a0.toNatClampNeg) a1) G2 Q) ∧ ((F2 113 0) = 0 → Q (-1000000002) F2 G2))) ∧ (x2_ = 0 → Q (-1000000001) F2 G2))))))) : AMi D (d + 1) nModel_hurt [.ref 39, .int a0, .int a1] F G Q := by
  refine AM_intro (by decide) (Nat.le_of_ble_eq_true rfl) ?_
  intro X CX
  refine gw_aload_n CX.1 0 rfl dModel_hurt_0 rfl ?_
  refine gw_iload_n CX.1 1 rfl dModel_hurt_1 rfl ?_
  refine cl_Model_isPerson CX (Nat.le_of_ble_eq_true rfl) wm_Model_109 dModel_hurt_2 H (fun x1_ F1 G1 H => ?_)
  refine gw_if_eq (tgt := 15) CX.1 dModel_hurt_5 (by decide) (fun c => ?_) (fun c => ?_)
  · replace H := H.1 c
    refine gw_ldc CX.1 wc_Model_85 dModel_hurt_15 ?_
    exact gw_iret CX rfl rfl ⟨_, _, _, rfl, rfl, H⟩ (Nat.zero_le _) (Nat.zero_le _) dModel_hurt_17
  · replace H := H.2 c
    refine gw_iload_n CX.1 2 rfl dModel_hurt_8 rfl ?_
    refine cl_Model_isCue CX (Nat.le_of_ble_eq_true rfl) wm_Model_91 dModel_hurt_9 H (fun x2_ F2 G2 H => ?_)
    refine gw_if_ne (tgt := 18) CX.1 dModel_hurt_12 (by decide) (fun c => ?_) (fun c => ?_)
    · replace H := H.1 c
      refine gw_aload_n CX.1 0 rfl dModel_hurt_18 rfl ?_
      refine gg_Model_128 CX.1 rfl dModel_hurt_19 ?_
      refine gw_if_ne (tgt := 28) CX.1 dModel_hurt_22 (by decide) (fun c => ?_) (fun c => ?_)
      · replace H := H.1 c
        refine gw_aload_n CX.1 0 rfl dModel_hurt_28 rfl ?_
        refine gg_Model_43 CX.1 rfl dModel_hurt_29 ?_
        refine gw_iload_n CX.1 1 rfl dModel_hurt_32 rfl ?_
        refine gw_iload_n CX.1 2 rfl dModel_hurt_33 rfl ?_
        obtain ⟨hin, H⟩ := H
        refine gs_50 CX.1 hin dModel_hurt_34 ?_
        refine gw_iconst (v := 0) CX.1 dModel_hurt_35 (by decide) ?_
        refine gw_istore_n CX.1 dModel_hurt_36 rfl (by decide) rfl ?_
        refine gw_iconst (v := 0) CX.1 dModel_hurt_37 (by decide) ?_
        refine gw_istore CX.1 dModel_hurt_38 (by decide) rfl ?_
        exact gw_sub [2, 3, 4, 1, 0] rfl (H X CX)
      · replace H := H.2 c
        refine gw_ldc CX.1 wc_Model_103 dModel_hurt_25 ?_
        exact gw_iret CX rfl rfl ⟨_, _, _, rfl, rfl, H⟩ (Nat.zero_le _) (Nat.zero_le _) dModel_hurt_27
    · replace H := H.2 c
      refine gw_ldc CX.1 wc_Model_85 dModel_hurt_15 ?_
      exact gw_iret CX rfl rfl ⟨_, _, _, rfl, rfl, H⟩ (Nat.zero_le _) (Nat.zero_le _) dModel_hurt_17
theorem bModel_takesOver_2 {D : va_G} {d : Nat} {Q : Int32 → (Nat → Nat → Int32) → (Nat → Int64) → Prop} {F : Nat → Nat → Int32} {G : Nat → Int64} {x1 : Int32} {x2 : Int32} {x3 : Int32} (H : ((30 ≤ x3 → AMi D d nModel_isInFrom [.ref 39, .int x1, .int x2] F G (fun x1_ F1 G1 => ((¬ x1_ = 0 → AWi D (d + 1) nModel_takesOver 39 [(0, .ref 39), (1, .int x1), (2, .int x2), (3, .int 0)] [] F1 G1 Q) ∧ (x1_ = 0 → Q 0 F1 G1)))) ∧ (¬ (30 ≤ x3) → vp_in ((30 * x1) + x3) 240 ∧ AWi D (d + 1) nModel_takesOver 2 [(0, .ref 39), (1, .int x1), (2, .int x2), (3, .int (x3 + 1))] [] (up F 52 (((30 * x1) + x3).toNatClampNeg) (-1)) G Q))) : AWi D (d + 1) nModel_takesOver 2 [(0, .ref 39), (1, .int x1), (2, .int x2), (3, .int x3)] [] F G Q := by
  intro X CX
  refine gw_iload_n CX.1 3 rfl dModel_takesOver_2 rfl ?_
  refine gw_bipush (v := 30) CX.1 dModel_takesOver_3 (by decide) ?_
  refine gw_icmp_ge (tgt := 26) CX.1 dModel_takesOver_5 (by decide) (fun c => ?_) (fun c => ?_)
  · replace H := H.1 c
    refine gw_aload_n CX.1 0 rfl dModel_takesOver_26 rfl ?_
    refine gw_iload_n CX.1 1 rfl dModel_takesOver_27 rfl ?_
    refine gw_iload_n CX.1 2 rfl dModel_takesOver_28 rfl ?_
    refine cl_Model_isInFrom CX (Nat.le_of_ble_eq_true rfl) wm_Model_142 dModel_takesOver_29 H (fun x1_ F1 G1 H => ?_)
    refine gw_if_ne (tgt := 37) CX.1 dModel_takesOver_32 (by decide) (fun c => ?_) (fun c => ?_)
    · replace H := H.1 c
      refine gw_iconst (v := 0) CX.1 dModel_takesOver_37 (by decide) ?_
      refine gw_istore_n CX.1 dModel_takesOver_38 rfl (by decide) rfl ?_
      exact gw_sub [1, 2, 3, 0] rfl (H X CX)
    · replace H := H.2 c
      refine gw_iconst (v := 0) CX.1 dModel_takesOver_35 (by decide) ?_
      exact gw_iret CX rfl (by decide) ⟨_, _, _, rfl, rfl, H⟩ (Nat.zero_le _) (Nat.zero_le _) dModel_takesOver_36
  · replace H := H.2 c
    refine gw_aload_n CX.1 0 rfl dModel_takesOver_8 rfl ?_
    refine gg_Model_49 CX.1 rfl dModel_takesOver_9 ?_
    refine gw_bipush (v := 30) CX.1 dModel_takesOver_12 (by decide) ?_
    refine gw_iload_n CX.1 1 rfl dModel_takesOver_14 rfl ?_
    refine gw_imul CX.1 dModel_takesOver_15 ?_
    refine gw_iload_n CX.1 3 rfl dModel_takesOver_16 rfl ?_
    refine gw_iadd CX.1 dModel_takesOver_17 ?_
    refine gw_iconst (v := (-1)) CX.1 dModel_takesOver_18 (by decide) ?_
    obtain ⟨hin, H⟩ := H
    refine gs_52 CX.1 hin dModel_takesOver_19 ?_
    refine gw_iinc (v := (x3 + 1)) CX.1 3 rfl dModel_takesOver_20 rfl (by decide) rfl ?_
    refine gw_goto (tgt := 2) CX.1 dModel_takesOver_23 (by decide) ?_
    exact gw_sub [1, 2, 3, 0] rfl (H X CX)
theorem bModel_takesOver_39 {D : va_G} {d : Nat} {Q : Int32 → (Nat → Nat → Int32) → (Nat → Int64) → Prop} {F : Nat → Nat → Int32} {G : Nat → Int64} {x1 : Int32} {x2 : Int32} {x3 : Int32} (H : (((F 111 0) ≤ x3 → Q 0 F G) ∧ (¬ ((F 111 0) ≤ x3) → AMi D d nModel_canTake [.ref 39, .int x3, .int x1, .int x2] F G (fun x1_ F1 G1 => ((x1_ = 0 → AWi D (d + 1) nModel_takesOver 39 [(0, .ref 39), (1, .int x1), (2, .int x2), (3, .int (x3 + 1))] [] F1 G1 Q) ∧ (¬ (x1_ = 0) → AWi D (d + 1) nModel_takesOver 60 [(0, .ref 39), (1, .int x1), (2, .int x2), (3, .int x3), (4, .int x2)] [] F1 G1 Q)))))) : AWi D (d + 1) nModel_takesOver 39 [(0, .ref 39), (1, .int x1), (2, .int x2), (3, .int x3)] [] F G Q := by
  intro X CX
  refine gw_iload_n CX.1 3 rfl dModel_takesOver_39 rfl ?_
  refine gw_aload_n CX.1 0 rfl dModel_takesOver_40 rfl ?_
  refine gg_Model_82 CX.1 rfl dModel_takesOver_41 ?_
  refine gw_icmp_ge (tgt := 94) CX.1 dModel_takesOver_44 (by decide) (fun c => ?_) (fun c => ?_)
  · replace H := H.1 c
    refine gw_iconst (v := 0) CX.1 dModel_takesOver_94 (by decide) ?_
    exact gw_iret CX rfl (by decide) ⟨_, _, _, rfl, rfl, H⟩ (Nat.zero_le _) (Nat.zero_le _) dModel_takesOver_95
  · replace H := H.2 c
    refine gw_aload_n CX.1 0 rfl dModel_takesOver_47 rfl ?_
    refine gw_iload_n CX.1 3 rfl dModel_takesOver_48 rfl ?_
    refine gw_iload_n CX.1 1 rfl dModel_takesOver_49 rfl ?_
    refine gw_iload_n CX.1 2 rfl dModel_takesOver_50 rfl ?_
    refine cl_Model_canTake CX (Nat.le_of_ble_eq_true rfl) wm_Model_182 dModel_takesOver_51 H (fun x1_ F1 G1 H => ?_)
    refine gw_if_eq (tgt := 88) CX.1 dModel_takesOver_54 (by decide) (fun c => ?_) (fun c => ?_)
    · replace H := H.1 c
      refine gw_iinc (v := (x3 + 1)) CX.1 3 rfl dModel_takesOver_88 rfl (by decide) rfl ?_
      refine gw_goto (tgt := 39) CX.1 dModel_takesOver_91 (by decide) ?_
      exact gw_sub [1, 2, 3, 0] rfl (H X CX)
    · replace H := H.2 c
      refine gw_iload_n CX.1 2 rfl dModel_takesOver_57 rfl ?_
      refine gw_istore CX.1 dModel_takesOver_58 (by decide) rfl ?_
      exact gw_sub [1, 2, 3, 4, 0] rfl (H X CX)
theorem bModel_takesOver_60 {D : va_G} {d : Nat} {Q : Int32 → (Nat → Nat → Int32) → (Nat → Int64) → Prop} {F : Nat → Nat → Int32} {G : Nat → Int64} {x1 : Int32} {x2 : Int32} {x3 : Int32} {x4 : Int32} (H : ((30 ≤ x4 → Q 1 F G) ∧ (¬ (30 ≤ x4) → vp_in ((30 * x1) + x4) 240 ∧ AWi D (d + 1) nModel_takesOver 60 [(0, .ref 39), (1, .int x1), (2, .int x2), (3, .int x3), (4, .int (x4 + 1))] [] (up F 52 (((30 * x1) + x4).toNatClampNeg) x3) G Q))) : AWi D (d + 1) nModel_takesOver 60 [(0, .ref 39), (1, .int x1), (2, .int x2), (3, .int x3), (4, .int x4)] [] F G Q := by
  intro X CX
  refine gw_iload CX.1 4 rfl dModel_takesOver_60 ?_
  refine gw_bipush (v := 30) CX.1 dModel_takesOver_62 (by decide) ?_
  refine gw_icmp_ge (tgt := 86) CX.1 dModel_takesOver_64 (by decide) (fun c => ?_) (fun c => ?_)
  · replace H := H.1 c
    refine gw_iconst (v := 1) CX.1 dModel_takesOver_86 (by decide) ?_
    exact gw_iret CX rfl (by decide) ⟨_, _, _, rfl, rfl, H⟩ (Nat.zero_le _) (Nat.zero_le _) dModel_takesOver_87
  · replace H := H.2 c
    refine gw_aload_n CX.1 0 rfl dModel_takesOver_67 rfl ?_
    refine gg_Model_49 CX.1 rfl dModel_takesOver_68 ?_
    refine gw_bipush (v := 30) CX.1 dModel_takesOver_71 (by decide) ?_
    refine gw_iload_n CX.1 1 rfl dModel_takesOver_73 rfl ?_
    refine gw_imul CX.1 dModel_takesOver_74 ?_
    refine gw_iload CX.1 4 rfl dModel_takesOver_75 ?_
    refine gw_iadd CX.1 dModel_takesOver_77 ?_
    refine gw_iload_n CX.1 3 rfl dModel_takesOver_78 rfl ?_
    obtain ⟨hin, H⟩ := H
    refine gs_52 CX.1 hin dModel_takesOver_79 ?_
    refine gw_iinc (v := (x4 + 1)) CX.1 4 rfl dModel_takesOver_80 rfl (by decide) rfl ?_
    refine gw_goto (tgt := 60) CX.1 dModel_takesOver_83 (by decide) ?_
    exact gw_sub [1, 2, 3, 4, 0] rfl (H X CX)
theorem eModel_takesOver {D : va_G} {d : Nat} {Q : Int32 → (Nat → Nat → Int32) → (Nat → Int64) → Prop} {F : Nat → Nat → Int32} {G : Nat → Int64} {a0 : Int32} {a1 : Int32} (H : AWi D (d + 1) nModel_takesOver 2 [(0, .ref 39), (1, .int a0), (2, .int a1), (3, .int a1)] [] F G Q) : AMi D (d + 1) nModel_takesOver [.ref 39, .int a0, .int a1] F G Q := by
  refine AM_intro (by decide) (Nat.le_of_ble_eq_true rfl) ?_
  intro X CX
  refine gw_iload_n CX.1 2 rfl dModel_takesOver_0 rfl ?_
  refine gw_istore_n CX.1 dModel_takesOver_1 rfl (by decide) rfl ?_
  exact gw_sub [1, 2, 3, 0] rfl (H X CX)
theorem bModel_canTake_25 {D : va_G} {d : Nat} {Q : Int32 → (Nat → Nat → Int32) → (Nat → Int64) → Prop} {F : Nat → Nat → Int32} {G : Nat → Int64} {x1 : Int32} {x2 : Int32} {x3 : Int32} {x4 : Int32} (H : ((30 ≤ x4 → Q 1 F G) ∧ (¬ (30 ≤ x4) → AWi D (d + 1) nModel_canTake 35 [(0, .ref 39), (1, .int x1), (2, .int x2), (3, .int x3), (4, .int x4), (5, .int 0)] [] F G Q))) : AWi D (d + 1) nModel_canTake 25 [(0, .ref 39), (1, .int x1), (2, .int x2), (3, .int x3), (4, .int x4)] [] F G Q := by
  intro X CX
  refine gw_iload CX.1 4 rfl dModel_canTake_25 ?_
  refine gw_bipush (v := 30) CX.1 dModel_canTake_27 (by decide) ?_
  refine gw_icmp_ge (tgt := 96) CX.1 dModel_canTake_29 (by decide) (fun c => ?_) (fun c => ?_)
  · replace H := H.1 c
    refine gw_iconst (v := 1) CX.1 dModel_canTake_96 (by decide) ?_
    exact gw_iret CX rfl (by decide) ⟨_, _, _, rfl, rfl, H⟩ (Nat.zero_le _) (Nat.zero_le _) dModel_canTake_97
  · replace H := H.2 c
    refine gw_iconst (v := 0) CX.1 dModel_canTake_32 (by decide) ?_
    refine gw_istore CX.1 dModel_canTake_33 (by decide) rfl ?_
    exact gw_sub [1, 2, 3, 4, 5, 0] rfl (H X CX)
theorem bModel_canTake_35 {D : va_G} {d : Nat} {Q : Int32 → (Nat → Nat → Int32) → (Nat → Int64) → Prop} {F : Nat → Nat → Int32} {G : Nat → Int64} {x1 : Int32} {x2 : Int32} {x3 : Int32} {x4 : Int32} {x5 : Int32} (H : (((F 110 0) ≤ x5 → AWi D (d + 1) nModel_canTake 25 [(0, .ref 39), (1, .int x1), (2, .int x2), (3, .int x3), (4, .int (x4 + 1))] [] F G Q) ∧ (¬ ((F 110 0) ≤ x5) → AMi D d nModel_is [.ref 39, .int x2, .int x4] F G (fun x1_ F1 G1 => ((x1_ = 0 → AWi D (d + 1) nModel_canTake 25 [(0, .ref 39), (1, .int x1), (2, .int x2), (3, .int x3), (4, .int (x4 + 1))] [] F1 G1 Q) ∧ (¬ (x1_ = 0) → AMi D d nModel_is [.ref 39, .int x5, .int x4] F1 G1 (fun x2_ F2 G2 => ((x2_ = 0 → AWi D (d + 1) nModel_canTake 35 [(0, .ref 39), (1, .int x1), (2, .int x2), (3, .int x3), (4, .int x4), (5, .int (x5 + 1))] [] F2 G2 Q) ∧ (¬ (x2_ = 0) → vp_in ((30 * x5) + x4) 240 ∧ ((¬ (F2 52 ((30 * x5) + x4).toNatClampNeg) = x1 → AWi D (d + 1) nModel_canTake 35 [(0, .ref 39), (1, .int x1), (2, .int x2), (3, .int x3), (4, .int x4), (5, .int (x5 + 1))] [] F2 G2 Q) ∧ ((F2 52 ((30 * x5) + x4).toNatClampNeg) = x1 → Q 0 F2 G2))))))))))) : AWi D (d + 1) nModel_canTake 35 [(0, .ref 39), (1, .int x1), (2, .int x2), (3, .int x3), (4, .int x4), (5, .int x5)] [] F G Q := by
  intro X CX
  refine gw_iload CX.1 5 rfl dModel_canTake_35 ?_
  refine gw_aload_n CX.1 0 rfl dModel_canTake_37 rfl ?_
  refine gg_Model_74 CX.1 rfl dModel_canTake_38 ?_
  refine gw_icmp_ge (tgt := 90) CX.1 dModel_canTake_41 (by decide) (fun c => ?_) (fun c => ?_)
  · replace H := H.1 c
    refine gw_iinc (v := (x4 + 1)) CX.1 4 rfl dModel_canTake_90 rfl (by decide) rfl ?_
    refine gw_goto (tgt := 25) CX.1 dModel_canTake_93 (by decide) ?_
    exact gw_sub [1, 2, 3, 4, 0] rfl (H X CX)
  · replace H := H.2 c
    refine gw_aload_n CX.1 0 rfl dModel_canTake_44 rfl ?_
    refine gw_iload_n CX.1 2 rfl dModel_canTake_45 rfl ?_
    refine gw_iload CX.1 4 rfl dModel_canTake_46 ?_
    refine cl_Model_is CX (Nat.le_of_ble_eq_true rfl) wm_Model_99 dModel_canTake_48 H (fun x1_ F1 G1 H => ?_)
    refine gw_if_eq (tgt := 90) CX.1 dModel_canTake_51 (by decide) (fun c => ?_) (fun c => ?_)
    · replace H := H.1 c
      refine gw_iinc (v := (x4 + 1)) CX.1 4 rfl dModel_canTake_90 rfl (by decide) rfl ?_
      refine gw_goto (tgt := 25) CX.1 dModel_canTake_93 (by decide) ?_
      exact gw_sub [1, 2, 3, 4, 0] rfl (H X CX)
    · replace H := H.2 c
      refine gw_aload_n CX.1 0 rfl dModel_canTake_54 rfl ?_
      refine gw_iload CX.1 5 rfl dModel_canTake_55 ?_
      refine gw_iload CX.1 4 rfl dModel_canTake_57 ?_
      refine cl_Model_is CX (Nat.le_of_ble_eq_true rfl) wm_Model_99 dModel_canTake_59 H (fun x2_ F2 G2 H => ?_)
      refine gw_if_eq (tgt := 84) CX.1 dModel_canTake_62 (by decide) (fun c => ?_) (fun c => ?_)
      · replace H := H.1 c
        refine gw_iinc (v := (x5 + 1)) CX.1 5 rfl dModel_canTake_84 rfl (by decide) rfl ?_
        refine gw_goto (tgt := 35) CX.1 dModel_canTake_87 (by decide) ?_
        exact gw_sub [1, 2, 3, 4, 5, 0] rfl (H X CX)
      · replace H := H.2 c
        refine gw_aload_n CX.1 0 rfl dModel_canTake_65 rfl ?_
        refine gg_Model_49 CX.1 rfl dModel_canTake_66 ?_
        refine gw_bipush (v := 30) CX.1 dModel_canTake_69 (by decide) ?_
        refine gw_iload CX.1 5 rfl dModel_canTake_71 ?_
        refine gw_imul CX.1 dModel_canTake_73 ?_
        refine gw_iload CX.1 4 rfl dModel_canTake_74 ?_
        refine gw_iadd CX.1 dModel_canTake_76 ?_
        obtain ⟨hin, H⟩ := H
        refine ga_52 CX.1 hin dModel_canTake_77 ?_
        refine gw_iload_n CX.1 1 rfl dModel_canTake_78 rfl ?_
        refine gw_icmp_ne (tgt := 84) CX.1 dModel_canTake_79 (by decide) (fun c => ?_) (fun c => ?_)
        · replace H := H.1 c
          refine gw_iinc (v := (x5 + 1)) CX.1 5 rfl dModel_canTake_84 rfl (by decide) rfl ?_
          refine gw_goto (tgt := 35) CX.1 dModel_canTake_87 (by decide) ?_
          exact gw_sub [1, 2, 3, 4, 5, 0] rfl (H X CX)
        · replace H := H.2 c
          refine gw_iconst (v := 0) CX.1 dModel_canTake_82 (by decide) ?_
          exact gw_iret CX rfl (by decide) ⟨_, _, _, rfl, rfl, H⟩ (Nat.zero_le _) (Nat.zero_le _) dModel_canTake_83
theorem eModel_canTake {D : va_G} {d : Nat} {Q : Int32 → (Nat → Nat → Int32) → (Nat → Int64) → Prop} {F : Nat → Nat → Int32} {G : Nat → Int64} {a0 : Int32} {a1 : Int32} {a2 : Int32} (H : vp_in a0 10 ∧ (((F 50 a0.toNatClampNeg) < 30 → Q 0 F G) ∧ (¬ ((F 50 a0.toNatClampNeg) < 30) → AMi D d nModel_canHave [.ref 39, .int a0, .int a1] F G (fun x1_ F1 G1 => ((¬ x1_ = 0 → AWi D (d + 1) nModel_canTake 25 [(0, .ref 39), (1, .int a0), (2, .int a1), (3, .int a2), (4, .int a2)] [] F1 G1 Q) ∧ (x1_ = 0 → Q 0 F1 G1)))))) : AMi D (d + 1) nModel_canTake [.ref 39, .int a0, .int a1, .int a2] F G Q := by
  refine AM_intro (by decide) (Nat.le_of_ble_eq_true rfl) ?_
  intro X CX
  refine gw_aload_n CX.1 0 rfl dModel_canTake_0 rfl ?_
  refine gg_Model_43 CX.1 rfl dModel_canTake_1 ?_
  refine gw_iload_n CX.1 1 rfl dModel_canTake_4 rfl ?_
  obtain ⟨hin, H⟩ := H
  refine ga_50 CX.1 hin dModel_canTake_5 ?_
  refine gw_bipush (v := 30) CX.1 dModel_canTake_6 (by decide) ?_
  refine gw_icmp_lt (tgt := 20) CX.1 dModel_canTake_8 (by decide) (fun c => ?_) (fun c => ?_)
  · replace H := H.1 c
    refine gw_iconst (v := 0) CX.1 dModel_canTake_20 (by decide) ?_
    exact gw_iret CX rfl (by decide) ⟨_, _, _, rfl, rfl, H⟩ (Nat.zero_le _) (Nat.zero_le _) dModel_canTake_21
  · replace H := H.2 c
    refine gw_aload_n CX.1 0 rfl dModel_canTake_11 rfl ?_
    refine gw_iload_n CX.1 1 rfl dModel_canTake_12 rfl ?_
    refine gw_iload_n CX.1 2 rfl dModel_canTake_13 rfl ?_
    refine cl_Model_canHave CX (Nat.le_of_ble_eq_true rfl) wm_Model_139 dModel_canTake_14 H (fun x1_ F1 G1 H => ?_)
    refine gw_if_ne (tgt := 22) CX.1 dModel_canTake_17 (by decide) (fun c => ?_) (fun c => ?_)
    · replace H := H.1 c
      refine gw_iload_n CX.1 3 rfl dModel_canTake_22 rfl ?_
      refine gw_istore CX.1 dModel_canTake_23 (by decide) rfl ?_
      exact gw_sub [1, 2, 3, 4, 0] rfl (H X CX)
    · replace H := H.2 c
      refine gw_iconst (v := 0) CX.1 dModel_canTake_20 (by decide) ?_
      exact gw_iret CX rfl (by decide) ⟨_, _, _, rfl, rfl, H⟩ (Nat.zero_le _) (Nat.zero_le _) dModel_canTake_21
theorem eModel_at {D : va_G} {d : Nat} {Q : Int32 → (Nat → Nat → Int32) → (Nat → Int64) → Prop} {F : Nat → Nat → Int32} {G : Nat → Int64} {a0 : Int32} {a1 : Int32} (H : AMi D d nModel_isTrack [.ref 39, .int a0] F G (fun x1_ F1 G1 => ((x1_ = 0 → Q (-1000000001) F1 G1) ∧ (¬ (x1_ = 0) → AMi D d nModel_isCue [.int a1] F1 G1 (fun x2_ F2 G2 => ((¬ x2_ = 0 → ((¬ (F2 113 0) = 0 → vp_in ((30 * a0) + a1) 240 ∧ ((0 ≤ (F2 52 ((30 * a0) + a1).toNatClampNeg) → Q (F2 52 ((30 * a0) + a1).toNatClampNeg) F2 G2) ∧ (¬ (0 ≤ (F2 52 ((30 * a0) + a1).toNatClampNeg)) → Q (-1000000005) F2 G2))) ∧ ((F2 113 0) = 0 → Q (-1000000002) F2 G2))) ∧ (x2_ = 0 → Q (-1000000001) F2 G2))))))) : AMi D (d + 1) nModel_at [.ref 39, .int a0, .int a1] F G Q := by
  refine AM_intro (by decide) (Nat.le_of_ble_eq_true rfl) ?_
  intro X CX
  refine gw_aload_n CX.1 0 rfl dModel_at_0 rfl ?_
  refine gw_iload_n CX.1 1 rfl dModel_at_1 rfl ?_
  refine cl_Model_isTrack CX (Nat.le_of_ble_eq_true rfl) wm_Model_87 dModel_at_2 H (fun x1_ F1 G1 H => ?_)
  refine gw_if_eq (tgt := 15) CX.1 dModel_at_5 (by decide) (fun c => ?_) (fun c => ?_)
  · replace H := H.1 c
    refine gw_ldc CX.1 wc_Model_85 dModel_at_15 ?_
    exact gw_iret CX rfl rfl ⟨_, _, _, rfl, rfl, H⟩ (Nat.zero_le _) (Nat.zero_le _) dModel_at_17
  · replace H := H.2 c
    refine gw_iload_n CX.1 2 rfl dModel_at_8 rfl ?_
    refine cl_Model_isCue CX (Nat.le_of_ble_eq_true rfl) wm_Model_91 dModel_at_9 H (fun x2_ F2 G2 H => ?_)
    refine gw_if_ne (tgt := 18) CX.1 dModel_at_12 (by decide) (fun c => ?_) (fun c => ?_)
    · replace H := H.1 c
      refine gw_aload_n CX.1 0 rfl dModel_at_18 rfl ?_
      refine gg_Model_128 CX.1 rfl dModel_at_19 ?_
      refine gw_if_ne (tgt := 28) CX.1 dModel_at_22 (by decide) (fun c => ?_) (fun c => ?_)
      · replace H := H.1 c
        refine gw_aload_n CX.1 0 rfl dModel_at_28 rfl ?_
        refine gg_Model_49 CX.1 rfl dModel_at_29 ?_
        refine gw_bipush (v := 30) CX.1 dModel_at_32 (by decide) ?_
        refine gw_iload_n CX.1 1 rfl dModel_at_34 rfl ?_
        refine gw_imul CX.1 dModel_at_35 ?_
        refine gw_iload_n CX.1 2 rfl dModel_at_36 rfl ?_
        refine gw_iadd CX.1 dModel_at_37 ?_
        obtain ⟨hin, H⟩ := H
        refine ga_52 CX.1 hin dModel_at_38 ?_
        refine gw_istore_n CX.1 dModel_at_39 rfl (by decide) rfl ?_
        refine gw_iload_n CX.1 0 rfl dModel_at_40 rfl ?_
        refine gw_if_ge (tgt := 49) CX.1 dModel_at_41 (by decide) (fun c => ?_) (fun c => ?_)
        · replace H := H.1 c
          refine gw_iload_n CX.1 0 rfl dModel_at_49 rfl ?_
          exact gw_iret CX rfl rfl ⟨_, _, _, rfl, rfl, H⟩ (Nat.zero_le _) (Nat.zero_le _) dModel_at_50
        · replace H := H.2 c
          refine gw_ldc CX.1 wc_Model_94 dModel_at_44 ?_
          refine gw_goto (tgt := 50) CX.1 dModel_at_46 (by decide) ?_
          exact gw_iret CX rfl rfl ⟨_, _, _, rfl, rfl, H⟩ (Nat.zero_le _) (Nat.zero_le _) dModel_at_50
      · replace H := H.2 c
        refine gw_ldc CX.1 wc_Model_103 dModel_at_25 ?_
        exact gw_iret CX rfl rfl ⟨_, _, _, rfl, rfl, H⟩ (Nat.zero_le _) (Nat.zero_le _) dModel_at_27
    · replace H := H.2 c
      refine gw_ldc CX.1 wc_Model_85 dModel_at_15 ?_
      exact gw_iret CX rfl rfl ⟨_, _, _, rfl, rfl, H⟩ (Nat.zero_le _) (Nat.zero_le _) dModel_at_17
theorem eModel_plan {D : va_G} {d : Nat} {Q : Int32 → (Nat → Nat → Int32) → (Nat → Int64) → Prop} {F : Nat → Nat → Int32} {G : Nat → Int64} (H : AMi D d nModel_findPlan [.ref 39] F G (fun x1_ F1 G1 => vp_in x1_ 72171 ∧ ((0 ≤ (F1 57 x1_.toNatClampNeg) → vp_in x1_ 72171 ∧ Q (F1 57 x1_.toNatClampNeg) F1 G1) ∧ (¬ (0 ≤ (F1 57 x1_.toNatClampNeg)) → Q (-1000000002) F1 G1)))) : AMi D (d + 1) nModel_plan [.ref 39] F G Q := by
  refine AM_intro (by decide) (Nat.le_of_ble_eq_true rfl) ?_
  intro X CX
  refine gw_aload_n CX.1 0 rfl dModel_plan_0 rfl ?_
  refine cl_Model_findPlan CX (Nat.le_of_ble_eq_true rfl) wm_Model_197 dModel_plan_1 H (fun x1_ F1 G1 H => ?_)
  refine gw_istore_n CX.1 dModel_plan_4 rfl (by decide) rfl ?_
  refine gw_aload_n CX.1 1 rfl dModel_plan_5 rfl ?_
  refine gg_Model_65 CX.1 rfl dModel_plan_6 ?_
  refine gw_iload_n CX.1 0 rfl dModel_plan_9 rfl ?_
  obtain ⟨hin, H⟩ := H
  refine ga_57 CX.1 hin dModel_plan_10 ?_
  refine gw_if_ge (tgt := 19) CX.1 dModel_plan_11 (by decide) (fun c => ?_) (fun c => ?_)
  · replace H := H.1 c
    refine gw_aload_n CX.1 1 rfl dModel_plan_19 rfl ?_
    refine gg_Model_65 CX.1 rfl dModel_plan_20 ?_
    refine gw_iload_n CX.1 0 rfl dModel_plan_23 rfl ?_
    obtain ⟨hin, H⟩ := H
    refine ga_57 CX.1 hin dModel_plan_24 ?_
    exact gw_iret CX rfl rfl ⟨_, _, _, rfl, rfl, H⟩ (Nat.zero_le _) (Nat.zero_le _) dModel_plan_25
  · replace H := H.2 c
    refine gw_ldc CX.1 wc_Model_103 dModel_plan_14 ?_
    refine gw_goto (tgt := 25) CX.1 dModel_plan_16 (by decide) ?_
    exact gw_iret CX rfl rfl ⟨_, _, _, rfl, rfl, H⟩ (Nat.zero_le _) (Nat.zero_le _) dModel_plan_25
theorem bModel_findPlan_128 {D : va_G} {d : Nat} {Q : Int32 → (Nat → Nat → Int32) → (Nat → Int64) → Prop} {F : Nat → Nat → Int32} {G : Nat → Int64} {x1 : Int32} {x2 : Int32} {x3 : Int32} (H : ((x3 < 0 → Q x2 F G) ∧ (¬ (x3 < 0) → AWi D (d + 1) nModel_findPlan 135 [(0, .ref 39), (1, .int x1), (2, .int x2), (3, .int x3), (4, .int 0)] [] F G Q))) : AWi D (d + 1) nModel_findPlan 128 [(0, .ref 39), (1, .int x1), (2, .int x2), (3, .int x3)] [] F G Q := by
  intro X CX
  refine gw_iload_n CX.1 3 rfl dModel_findPlan_128 rfl ?_
  refine gw_if_lt (tgt := 309) CX.1 dModel_findPlan_129 (by decide) (fun c => ?_) (fun c => ?_)
  · replace H := H.1 c
    refine gw_iload_n CX.1 2 rfl dModel_findPlan_309 rfl ?_
    exact gw_iret CX rfl rfl ⟨_, _, _, rfl, rfl, H⟩ (Nat.zero_le _) (Nat.zero_le _) dModel_findPlan_310
  · replace H := H.2 c
    refine gw_iconst (v := 0) CX.1 dModel_findPlan_132 (by decide) ?_
    refine gw_istore CX.1 dModel_findPlan_133 (by decide) rfl ?_
    exact gw_sub [1, 2, 3, 4, 0] rfl (H X CX)
theorem bModel_findPlan_135 {D : va_G} {d : Nat} {Q : Int32 → (Nat → Nat → Int32) → (Nat → Int64) → Prop} {F : Nat → Nat → Int32} {G : Nat → Int64} {x1 : Int32} {x2 : Int32} {x3 : Int32} {x4 : Int32} (H : ((x1 ≤ x4 → AWi D (d + 1) nModel_findPlan 128 [(0, .ref 39), (1, .int x1), (2, .int x2), (3, .int (x3 + (-1)))] [] F G Q) ∧ (¬ (x1 ≤ x4) → ((¬ x3 = (F 111 0) → vp_in ((6561 * (x3 + 1)) + x4) 72171 ∧ AWi D (d + 1) nModel_findPlan 182 [(0, .ref 39), (1, .int x1), (2, .int x2), (3, .int x3), (4, .int x4), (5, .int (F 57 ((6561 * (x3 + 1)) + x4).toNatClampNeg)), (6, .int 0)] [] F G Q) ∧ (x3 = (F 111 0) → ((¬ x4 = 0 → AWi D (d + 1) nModel_findPlan 182 [(0, .ref 39), (1, .int x1), (2, .int x2), (3, .int x3), (4, .int x4), (5, .int (-1)), (6, .int 0)] [] F G Q) ∧ (x4 = 0 → AWi D (d + 1) nModel_findPlan 182 [(0, .ref 39), (1, .int x1), (2, .int x2), (3, .int x3), (4, .int x4), (5, .int 0), (6, .int 0)] [] F G Q))))))) : AWi D (d + 1) nModel_findPlan 135 [(0, .ref 39), (1, .int x1), (2, .int x2), (3, .int x3), (4, .int x4)] [] F G Q := by
  intro X CX
  refine gw_iload CX.1 4 rfl dModel_findPlan_135 ?_
  refine gw_iload_n CX.1 1 rfl dModel_findPlan_137 rfl ?_
  refine gw_icmp_ge (tgt := 303) CX.1 dModel_findPlan_138 (by decide) (fun c => ?_) (fun c => ?_)
  · replace H := H.1 c
    refine gw_iinc (v := (x3 + (-1))) CX.1 3 rfl dModel_findPlan_303 rfl (by decide) rfl ?_
    refine gw_goto (tgt := 128) CX.1 dModel_findPlan_306 (by decide) ?_
    exact gw_sub [1, 2, 3, 0] rfl (H X CX)
  · replace H := H.2 c
    refine gw_iload_n CX.1 3 rfl dModel_findPlan_141 rfl ?_
    refine gw_aload_n CX.1 0 rfl dModel_findPlan_142 rfl ?_
    refine gg_Model_82 CX.1 rfl dModel_findPlan_143 ?_
    refine gw_icmp_ne (tgt := 162) CX.1 dModel_findPlan_146 (by decide) (fun c => ?_) (fun c => ?_)
    · replace H := H.1 c
      refine gw_aload_n CX.1 0 rfl dModel_findPlan_162 rfl ?_
      refine gg_Model_65 CX.1 rfl dModel_findPlan_163 ?_
      refine gw_sipush (v := 6561) CX.1 dModel_findPlan_166 (by decide) ?_
      refine gw_iload_n CX.1 3 rfl dModel_findPlan_169 rfl ?_
      refine gw_iconst (v := 1) CX.1 dModel_findPlan_170 (by decide) ?_
      refine gw_iadd CX.1 dModel_findPlan_171 ?_
      refine gw_imul CX.1 dModel_findPlan_172 ?_
      refine gw_iload CX.1 4 rfl dModel_findPlan_173 ?_
      refine gw_iadd CX.1 dModel_findPlan_175 ?_
      obtain ⟨hin, H⟩ := H
      refine ga_57 CX.1 hin dModel_findPlan_176 ?_
      refine gw_istore CX.1 dModel_findPlan_177 (by decide) rfl ?_
      refine gw_iconst (v := 0) CX.1 dModel_findPlan_179 (by decide) ?_
      refine gw_istore CX.1 dModel_findPlan_180 (by decide) rfl ?_
      exact gw_sub [2, 3, 4, 5, 6, 1, 0] rfl (H X CX)
    · replace H := H.2 c
      refine gw_iload CX.1 4 rfl dModel_findPlan_149 ?_
      refine gw_if_ne (tgt := 158) CX.1 dModel_findPlan_151 (by decide) (fun c => ?_) (fun c => ?_)
      · replace H := H.1 c
        refine gw_iconst (v := (-1)) CX.1 dModel_findPlan_158 (by decide) ?_
        refine gw_goto (tgt := 177) CX.1 dModel_findPlan_159 (by decide) ?_
        refine gw_istore CX.1 dModel_findPlan_177 (by decide) rfl ?_
        refine gw_iconst (v := 0) CX.1 dModel_findPlan_179 (by decide) ?_
        refine gw_istore CX.1 dModel_findPlan_180 (by decide) rfl ?_
        exact gw_sub [2, 3, 4, 5, 6, 1, 0] rfl (H X CX)
      · replace H := H.2 c
        refine gw_iconst (v := 0) CX.1 dModel_findPlan_154 (by decide) ?_
        refine gw_goto (tgt := 177) CX.1 dModel_findPlan_155 (by decide) ?_
        refine gw_istore CX.1 dModel_findPlan_177 (by decide) rfl ?_
        refine gw_iconst (v := 0) CX.1 dModel_findPlan_179 (by decide) ?_
        refine gw_istore CX.1 dModel_findPlan_180 (by decide) rfl ?_
        exact gw_sub [2, 3, 4, 5, 6, 1, 0] rfl (H X CX)
theorem bModel_findPlan_182 {D : va_G} {d : Nat} {Q : Int32 → (Nat → Nat → Int32) → (Nat → Int64) → Prop} {F : Nat → Nat → Int32} {G : Nat → Int64} {x1 : Int32} {x2 : Int32} {x3 : Int32} {x4 : Int32} {x5 : Int32} {x6 : Int32} (H : (((F 110 0) ≤ x6 → vp_in ((6561 * x3) + x4) 72171 ∧ AWi D (d + 1) nModel_findPlan 135 [(0, .ref 39), (1, .int x1), (2, .int x2), (3, .int x3), (4, .int (x4 + 1))] [] (up F 57 (((6561 * x3) + x4).toNatClampNeg) x5) G Q) ∧ (¬ ((F 110 0) ≤ x6) → (((F 111 0) ≤ x3 → vp_in ((6561 * x3) + x4) 72171 ∧ AWi D (d + 1) nModel_findPlan 135 [(0, .ref 39), (1, .int x1), (2, .int x2), (3, .int x3), (4, .int (x4 + 1))] [] (up F 57 (((6561 * x3) + x4).toNatClampNeg) x5) G Q) ∧ (¬ ((F 111 0) ≤ x3) → AMi D d nModel_mayPut [.ref 39, .int x3, .int x6] F G (fun x1_ F1 G1 => ((x1_ = 0 → AWi D (d + 1) nModel_findPlan 234 [(0, .ref 39), (1, .int x1), (2, .int x2), (3, .int x3), (4, .int x4), (5, .int x5), (6, .int x6)] [.int (-1)] F1 G1 Q) ∧ (¬ (x1_ = 0) → AMi D d nModel_behind [.ref 39, .int x4, .int x6] F1 G1 (fun x2_ F2 G2 => vp_in ((6561 * (x3 + 1)) + x2_) 72171 ∧ AWi D (d + 1) nModel_findPlan 234 [(0, .ref 39), (1, .int x1), (2, .int x2), (3, .int x3), (4, .int x4), (5, .int x5), (6, .int x6)] [.int (F2 57 ((6561 * (x3 + 1)) + x2_).toNatClampNeg)] F2 G2 Q))))))))) : AWi D (d + 1) nModel_findPlan 182 [(0, .ref 39), (1, .int x1), (2, .int x2), (3, .int x3), (4, .int x4), (5, .int x5), (6, .int x6)] [] F G Q := by
  intro X CX
  refine gw_iload CX.1 6 rfl dModel_findPlan_182 ?_
  refine gw_aload_n CX.1 0 rfl dModel_findPlan_184 rfl ?_
  refine gg_Model_74 CX.1 rfl dModel_findPlan_185 ?_
  refine gw_icmp_ge (tgt := 282) CX.1 dModel_findPlan_188 (by decide) (fun c => ?_) (fun c => ?_)
  · replace H := H.1 c
    refine gw_aload_n CX.1 0 rfl dModel_findPlan_282 rfl ?_
    refine gg_Model_65 CX.1 rfl dModel_findPlan_283 ?_
    refine gw_sipush (v := 6561) CX.1 dModel_findPlan_286 (by decide) ?_
    refine gw_iload_n CX.1 3 rfl dModel_findPlan_289 rfl ?_
    refine gw_imul CX.1 dModel_findPlan_290 ?_
    refine gw_iload CX.1 4 rfl dModel_findPlan_291 ?_
    refine gw_iadd CX.1 dModel_findPlan_293 ?_
    refine gw_iload CX.1 5 rfl dModel_findPlan_294 ?_
    obtain ⟨hin, H⟩ := H
    refine gs_57 CX.1 hin dModel_findPlan_296 ?_
    refine gw_iinc (v := (x4 + 1)) CX.1 4 rfl dModel_findPlan_297 rfl (by decide) rfl ?_
    refine gw_goto (tgt := 135) CX.1 dModel_findPlan_300 (by decide) ?_
    exact gw_sub [1, 2, 3, 4, 0] rfl (H X CX)
  · replace H := H.2 c
    refine gw_iload_n CX.1 3 rfl dModel_findPlan_191 rfl ?_
    refine gw_aload_n CX.1 0 rfl dModel_findPlan_192 rfl ?_
    refine gg_Model_82 CX.1 rfl dModel_findPlan_193 ?_
    refine gw_icmp_ge (tgt := 282) CX.1 dModel_findPlan_196 (by decide) (fun c => ?_) (fun c => ?_)
    · replace H := H.1 c
      refine gw_aload_n CX.1 0 rfl dModel_findPlan_282 rfl ?_
      refine gg_Model_65 CX.1 rfl dModel_findPlan_283 ?_
      refine gw_sipush (v := 6561) CX.1 dModel_findPlan_286 (by decide) ?_
      refine gw_iload_n CX.1 3 rfl dModel_findPlan_289 rfl ?_
      refine gw_imul CX.1 dModel_findPlan_290 ?_
      refine gw_iload CX.1 4 rfl dModel_findPlan_291 ?_
      refine gw_iadd CX.1 dModel_findPlan_293 ?_
      refine gw_iload CX.1 5 rfl dModel_findPlan_294 ?_
      obtain ⟨hin, H⟩ := H
      refine gs_57 CX.1 hin dModel_findPlan_296 ?_
      refine gw_iinc (v := (x4 + 1)) CX.1 4 rfl dModel_findPlan_297 rfl (by decide) rfl ?_
      refine gw_goto (tgt := 135) CX.1 dModel_findPlan_300 (by decide) ?_
      exact gw_sub [1, 2, 3, 4, 0] rfl (H X CX)
    · replace H := H.2 c
      refine gw_aload_n CX.1 0 rfl dModel_findPlan_199 rfl ?_
      refine gw_iload_n CX.1 3 rfl dModel_findPlan_200 rfl ?_
      refine gw_iload CX.1 6 rfl dModel_findPlan_201 ?_
      refine cl_Model_mayPut CX (Nat.le_of_ble_eq_true rfl) wm_Model_188 dModel_findPlan_203 H (fun x1_ F1 G1 H => ?_)
      refine gw_if_eq (tgt := 233) CX.1 dModel_findPlan_206 (by decide) (fun c => ?_) (fun c => ?_)
      · replace H := H.1 c
        refine gw_iconst (v := (-1)) CX.1 dModel_findPlan_233 (by decide) ?_
        exact H X CX
      · replace H := H.2 c
        refine gw_aload_n CX.1 0 rfl dModel_findPlan_209 rfl ?_
        refine gg_Model_65 CX.1 rfl dModel_findPlan_210 ?_
        refine gw_sipush (v := 6561) CX.1 dModel_findPlan_213 (by decide) ?_
        refine gw_iload_n CX.1 3 rfl dModel_findPlan_216 rfl ?_
        refine gw_iconst (v := 1) CX.1 dModel_findPlan_217 (by decide) ?_
        refine gw_iadd CX.1 dModel_findPlan_218 ?_
        refine gw_imul CX.1 dModel_findPlan_219 ?_
        refine gw_aload_n CX.1 0 rfl dModel_findPlan_220 rfl ?_
        refine gw_iload CX.1 4 rfl dModel_findPlan_221 ?_
        refine gw_iload CX.1 6 rfl dModel_findPlan_223 ?_
        refine cl_Model_behind CX (Nat.le_of_ble_eq_true rfl) wm_Model_191 dModel_findPlan_225 H (fun x2_ F2 G2 H => ?_)
        refine gw_iadd CX.1 dModel_findPlan_228 ?_
        obtain ⟨hin, H⟩ := H
        refine ga_57 CX.1 hin dModel_findPlan_229 ?_
        refine gw_goto (tgt := 234) CX.1 dModel_findPlan_230 (by decide) ?_
        exact H X CX
theorem bModel_findPlan_234 {D : va_G} {d : Nat} {Q : Int32 → (Nat → Nat → Int32) → (Nat → Int64) → Prop} {F : Nat → Nat → Int32} {G : Nat → Int64} {x1 : Int32} {x2 : Int32} {x3 : Int32} {x4 : Int32} {x5 : Int32} {x6 : Int32} {s0 : Int32} (H : ((s0 < 0 → AWi D (d + 1) nModel_findPlan 182 [(0, .ref 39), (1, .int x1), (2, .int x2), (3, .int x3), (4, .int x4), (5, .int x5), (6, .int (x6 + 1))] [] F G Q) ∧ (¬ (s0 < 0) → ((x5 < 0 → AWi D (d + 1) nModel_findPlan 260 [(0, .ref 39), (1, .int x1), (2, .int x2), (3, .int x3), (4, .int x4), (5, .int x5), (6, .int x6), (7, .int s0)] [] F G Q) ∧ (¬ (x5 < 0) → AMi D d nModel_hours [.ref 39, .int x6] F G (fun x1_ F1 G1 => ((x5 ≤ (s0 + x1_) → AWi D (d + 1) nModel_findPlan 182 [(0, .ref 39), (1, .int x1), (2, .int x2), (3, .int x3), (4, .int x4), (5, .int x5), (6, .int (x6 + 1))] [] F1 G1 Q) ∧ (¬ (x5 ≤ (s0 + x1_)) → AWi D (d + 1) nModel_findPlan 260 [(0, .ref 39), (1, .int x1), (2, .int x2), (3, .int x3), (4, .int x4), (5, .int x5), (6, .int x6), (7, .int s0)] [] F1 G1 Q)))))))) : AWi D (d + 1) nModel_findPlan 234 [(0, .ref 39), (1, .int x1), (2, .int x2), (3, .int x3), (4, .int x4), (5, .int x5), (6, .int x6)] [.int s0] F G Q := by
  intro X CX
  refine gw_istore CX.1 dModel_findPlan_234 (by decide) rfl ?_
  refine gw_iload CX.1 0 rfl dModel_findPlan_236 ?_
  refine gw_if_lt (tgt := 272) CX.1 dModel_findPlan_238 (by decide) (fun c => ?_) (fun c => ?_)
  · replace H := H.1 c
    refine gw_iload CX.1 6 rfl dModel_findPlan_272 ?_
    refine gw_istore CX.1 dModel_findPlan_274 (by decide) rfl ?_
    refine gw_iinc (v := (x6 + 1)) CX.1 7 rfl dModel_findPlan_276 rfl (by decide) rfl ?_
    refine gw_goto (tgt := 182) CX.1 dModel_findPlan_279 (by decide) ?_
    exact gw_sub [3, 4, 5, 6, 7, 1, 0] rfl (H X CX)
  · replace H := H.2 c
    refine gw_iload CX.1 6 rfl dModel_findPlan_241 ?_
    refine gw_if_lt (tgt := 260) CX.1 dModel_findPlan_243 (by decide) (fun c => ?_) (fun c => ?_)
    · replace H := H.1 c
      exact gw_sub [1, 2, 3, 4, 5, 6, 7, 0] rfl (H X CX)
    · replace H := H.2 c
      refine gw_iload CX.1 0 rfl dModel_findPlan_246 ?_
      refine gw_aload_n CX.1 1 rfl dModel_findPlan_248 rfl ?_
      refine gw_iload CX.1 7 rfl dModel_findPlan_249 ?_
      refine cl_Model_hours CX (Nat.le_of_ble_eq_true rfl) wm_Model_194 dModel_findPlan_251 H (fun x1_ F1 G1 H => ?_)
      refine gw_iadd CX.1 dModel_findPlan_254 ?_
      refine gw_iload CX.1 6 rfl dModel_findPlan_255 ?_
      refine gw_icmp_ge (tgt := 272) CX.1 dModel_findPlan_257 (by decide) (fun c => ?_) (fun c => ?_)
      · replace H := H.1 c
        refine gw_iload CX.1 6 rfl dModel_findPlan_272 ?_
        refine gw_istore CX.1 dModel_findPlan_274 (by decide) rfl ?_
        refine gw_iinc (v := (x6 + 1)) CX.1 7 rfl dModel_findPlan_276 rfl (by decide) rfl ?_
        refine gw_goto (tgt := 182) CX.1 dModel_findPlan_279 (by decide) ?_
        exact gw_sub [3, 4, 5, 6, 7, 1, 0] rfl (H X CX)
      · replace H := H.2 c
        exact gw_sub [1, 2, 3, 4, 5, 6, 7, 0] rfl (H X CX)
theorem bModel_findPlan_260 {D : va_G} {d : Nat} {Q : Int32 → (Nat → Nat → Int32) → (Nat → Int64) → Prop} {F : Nat → Nat → Int32} {G : Nat → Int64} {x1 : Int32} {x2 : Int32} {x3 : Int32} {x4 : Int32} {x5 : Int32} {x6 : Int32} {x7 : Int32} (H : AMi D d nModel_hours [.ref 39, .int x6] F G (fun x1_ F1 G1 => AWi D (d + 1) nModel_findPlan 182 [(0, .ref 39), (1, .int x1), (2, .int x2), (3, .int x3), (4, .int x4), (5, .int (x7 + x1_)), (6, .int (x6 + 1))] [] F1 G1 Q)) : AWi D (d + 1) nModel_findPlan 260 [(0, .ref 39), (1, .int x1), (2, .int x2), (3, .int x3), (4, .int x4), (5, .int x5), (6, .int x6), (7, .int x7)] [] F G Q := by
  intro X CX
  refine gw_iload CX.1 7 rfl dModel_findPlan_260 ?_
  refine gw_aload_n CX.1 0 rfl dModel_findPlan_262 rfl ?_
  refine gw_iload CX.1 6 rfl dModel_findPlan_263 ?_
  refine cl_Model_hours CX (Nat.le_of_ble_eq_true rfl) wm_Model_194 dModel_findPlan_265 H (fun x1_ F1 G1 H => ?_)
  refine gw_iadd CX.1 dModel_findPlan_268 ?_
  refine gw_goto (tgt := 274) CX.1 dModel_findPlan_269 (by decide) ?_
  refine gw_istore CX.1 dModel_findPlan_274 (by decide) rfl ?_
  refine gw_iinc (v := (x6 + 1)) CX.1 6 rfl dModel_findPlan_276 rfl (by decide) rfl ?_
  refine gw_goto (tgt := 182) CX.1 dModel_findPlan_279 (by decide) ?_
  exact gw_sub [2, 3, 4, 5, 6, 1, 0] rfl (H X CX)
theorem bModel_findPlan_51 {D : va_G} {d : Nat} {Q : Int32 → (Nat → Nat → Int32) → (Nat → Int64) → Prop} {F : Nat → Nat → Int32} {G : Nat → Int64} {x1 : Int32} {x2 : Int32} {x3 : Int32} (H : (((F 110 0) ≤ x3 → AWi D (d + 1) nModel_findPlan 128 [(0, .ref 39), (1, .int x1), (2, .int x2), (3, .int (F 111 0))] [] F G Q) ∧ (¬ ((F 110 0) ≤ x3) → AWi D (d + 1) nModel_findPlan 65 [(0, .ref 39), (1, .int x1), (2, .int x2), (3, .int x3), (4, .int 2), (5, .int 0)] [] F G Q))) : AWi D (d + 1) nModel_findPlan 51 [(0, .ref 39), (1, .int x1), (2, .int x2), (3, .int x3)] [] F G Q := by
  intro X CX
  refine gw_iload_n CX.1 3 rfl dModel_findPlan_51 rfl ?_
  refine gw_aload_n CX.1 0 rfl dModel_findPlan_52 rfl ?_
  refine gg_Model_74 CX.1 rfl dModel_findPlan_53 ?_
  refine gw_icmp_ge (tgt := 123) CX.1 dModel_findPlan_56 (by decide) (fun c => ?_) (fun c => ?_)
  · replace H := H.1 c
    refine gw_aload_n CX.1 0 rfl dModel_findPlan_123 rfl ?_
    refine gg_Model_82 CX.1 rfl dModel_findPlan_124 ?_
    refine gw_istore_n CX.1 dModel_findPlan_127 rfl (by decide) rfl ?_
    exact gw_sub [1, 2, 3, 0] rfl (H X CX)
  · replace H := H.2 c
    refine gw_iconst (v := 2) CX.1 dModel_findPlan_59 (by decide) ?_
    refine gw_istore CX.1 dModel_findPlan_60 (by decide) rfl ?_
    refine gw_iconst (v := 0) CX.1 dModel_findPlan_62 (by decide) ?_
    refine gw_istore CX.1 dModel_findPlan_63 (by decide) rfl ?_
    exact gw_sub [2, 3, 4, 5, 1, 0] rfl (H X CX)
theorem bModel_findPlan_65 {D : va_G} {d : Nat} {Q : Int32 → (Nat → Nat → Int32) → (Nat → Int64) → Prop} {F : Nat → Nat → Int32} {G : Nat → Int64} {x1 : Int32} {x2 : Int32} {x3 : Int32} {x4 : Int32} {x5 : Int32} (H : (((F 111 0) ≤ x5 → vp_in x3 9 ∧ AWi D (d + 1) nModel_findPlan 51 [(0, .ref 39), (1, .int x1), (2, .int (x2 + (x4 * (F 58 x3.toNatClampNeg)))), (3, .int (x3 + 1))] [] F G Q) ∧ (¬ ((F 111 0) ≤ x5) → AMi D d nModel_isFresh [.ref 39, .int x5, .int x3] F G (fun x1_ F1 G1 => ((x1_ = 0 → AWi D (d + 1) nModel_findPlan 65 [(0, .ref 39), (1, .int x1), (2, .int x2), (3, .int x3), (4, .int (x4 - 0)), (5, .int (x5 + 1))] [] F1 G1 Q) ∧ (¬ (x1_ = 0) → ((x4 ≤ 0 → AWi D (d + 1) nModel_findPlan 65 [(0, .ref 39), (1, .int x1), (2, .int x2), (3, .int x3), (4, .int (x4 - 0)), (5, .int (x5 + 1))] [] F1 G1 Q) ∧ (¬ (x4 ≤ 0) → AWi D (d + 1) nModel_findPlan 65 [(0, .ref 39), (1, .int x1), (2, .int x2), (3, .int x3), (4, .int (x4 - 1)), (5, .int (x5 + 1))] [] F1 G1 Q)))))))) : AWi D (d + 1) nModel_findPlan 65 [(0, .ref 39), (1, .int x1), (2, .int x2), (3, .int x3), (4, .int x4), (5, .int x5)] [] F G Q := by
  intro X CX
  refine gw_iload CX.1 5 rfl dModel_findPlan_65 ?_
  refine gw_aload_n CX.1 0 rfl dModel_findPlan_67 rfl ?_
  refine gg_Model_82 CX.1 rfl dModel_findPlan_68 ?_
  refine gw_icmp_ge (tgt := 105) CX.1 dModel_findPlan_71 (by decide) (fun c => ?_) (fun c => ?_)
  · replace H := H.1 c
    refine gw_iload_n CX.1 2 rfl dModel_findPlan_105 rfl ?_
    refine gw_iload CX.1 4 rfl dModel_findPlan_106 ?_
    refine gw_aload_n CX.1 0 rfl dModel_findPlan_108 rfl ?_
    refine gg_Model_68 CX.1 rfl dModel_findPlan_109 ?_
    refine gw_iload_n CX.1 3 rfl dModel_findPlan_112 rfl ?_
    obtain ⟨hin, H⟩ := H
    refine ga_58 CX.1 hin dModel_findPlan_113 ?_
    refine gw_imul CX.1 dModel_findPlan_114 ?_
    refine gw_iadd CX.1 dModel_findPlan_115 ?_
    refine gw_istore_n CX.1 dModel_findPlan_116 rfl (by decide) rfl ?_
    refine gw_iinc (v := (x3 + 1)) CX.1 3 rfl dModel_findPlan_117 rfl (by decide) rfl ?_
    refine gw_goto (tgt := 51) CX.1 dModel_findPlan_120 (by decide) ?_
    exact gw_sub [2, 3, 1, 0] rfl (H X CX)
  · replace H := H.2 c
    refine gw_iload CX.1 4 rfl dModel_findPlan_74 ?_
    refine gw_aload_n CX.1 0 rfl dModel_findPlan_76 rfl ?_
    refine gw_iload CX.1 5 rfl dModel_findPlan_77 ?_
    refine gw_iload_n CX.1 3 rfl dModel_findPlan_79 rfl ?_
    refine cl_Model_isFresh CX (Nat.le_of_ble_eq_true rfl) wm_Model_125 dModel_findPlan_80 H (fun x1_ F1 G1 H => ?_)
    refine gw_if_eq (tgt := 95) CX.1 dModel_findPlan_83 (by decide) (fun c => ?_) (fun c => ?_)
    · replace H := H.1 c
      refine gw_iconst (v := 0) CX.1 dModel_findPlan_95 (by decide) ?_
      refine gw_isub CX.1 dModel_findPlan_96 ?_
      refine gw_istore CX.1 dModel_findPlan_97 (by decide) rfl ?_
      refine gw_iinc (v := (x5 + 1)) CX.1 5 rfl dModel_findPlan_99 rfl (by decide) rfl ?_
      refine gw_goto (tgt := 65) CX.1 dModel_findPlan_102 (by decide) ?_
      exact gw_sub [2, 3, 4, 5, 1, 0] rfl (H X CX)
    · replace H := H.2 c
      refine gw_iload CX.1 4 rfl dModel_findPlan_86 ?_
      refine gw_if_le (tgt := 95) CX.1 dModel_findPlan_88 (by decide) (fun c => ?_) (fun c => ?_)
      · replace H := H.1 c
        refine gw_iconst (v := 0) CX.1 dModel_findPlan_95 (by decide) ?_
        refine gw_isub CX.1 dModel_findPlan_96 ?_
        refine gw_istore CX.1 dModel_findPlan_97 (by decide) rfl ?_
        refine gw_iinc (v := (x5 + 1)) CX.1 5 rfl dModel_findPlan_99 rfl (by decide) rfl ?_
        refine gw_goto (tgt := 65) CX.1 dModel_findPlan_102 (by decide) ?_
        exact gw_sub [2, 3, 4, 5, 1, 0] rfl (H X CX)
      · replace H := H.2 c
        refine gw_iconst (v := 1) CX.1 dModel_findPlan_91 (by decide) ?_
        refine gw_goto (tgt := 96) CX.1 dModel_findPlan_92 (by decide) ?_
        refine gw_isub CX.1 dModel_findPlan_96 ?_
        refine gw_istore CX.1 dModel_findPlan_97 (by decide) rfl ?_
        refine gw_iinc (v := (x5 + 1)) CX.1 5 rfl dModel_findPlan_99 rfl (by decide) rfl ?_
        refine gw_goto (tgt := 65) CX.1 dModel_findPlan_102 (by decide) ?_
        exact gw_sub [2, 3, 4, 5, 1, 0] rfl (H X CX)
theorem bModel_findPlan_9 {D : va_G} {d : Nat} {Q : Int32 → (Nat → Nat → Int32) → (Nat → Int64) → Prop} {F : Nat → Nat → Int32} {G : Nat → Int64} {x1 : Int32} (H : ((8 ≤ x1 → vp_in (F 110 0) 9 ∧ AWi D (d + 1) nModel_findPlan 51 [(0, .ref 39), (1, .int (F 58 (F 110 0).toNatClampNeg)), (2, .int 0), (3, .int 0)] [] F G Q) ∧ (¬ (8 ≤ x1) → vp_in x1 9 ∧ vp_in (x1 + 1) 9 ∧ AWi D (d + 1) nModel_findPlan 9 [(0, .ref 39), (1, .int (x1 + 1))] [] (up F 58 ((x1 + 1).toNatClampNeg) (3 * (F 58 x1.toNatClampNeg))) G Q))) : AWi D (d + 1) nModel_findPlan 9 [(0, .ref 39), (1, .int x1)] [] F G Q := by
  intro X CX
  refine gw_iload_n CX.1 1 rfl dModel_findPlan_9 rfl ?_
  refine gw_bipush (v := 8) CX.1 dModel_findPlan_10 (by decide) ?_
  refine gw_icmp_ge (tgt := 37) CX.1 dModel_findPlan_12 (by decide) (fun c => ?_) (fun c => ?_)
  · replace H := H.1 c
    refine gw_aload_n CX.1 0 rfl dModel_findPlan_37 rfl ?_
    refine gg_Model_68 CX.1 rfl dModel_findPlan_38 ?_
    refine gw_aload_n CX.1 0 rfl dModel_findPlan_41 rfl ?_
    refine gg_Model_74 CX.1 rfl dModel_findPlan_42 ?_
    obtain ⟨hin, H⟩ := H
    refine ga_58 CX.1 hin dModel_findPlan_45 ?_
    refine gw_istore_n CX.1 dModel_findPlan_46 rfl (by decide) rfl ?_
    refine gw_iconst (v := 0) CX.1 dModel_findPlan_47 (by decide) ?_
    refine gw_istore_n CX.1 dModel_findPlan_48 rfl (by decide) rfl ?_
    refine gw_iconst (v := 0) CX.1 dModel_findPlan_49 (by decide) ?_
    refine gw_istore_n CX.1 dModel_findPlan_50 rfl (by decide) rfl ?_
    exact gw_sub [3, 2, 1, 0] rfl (H X CX)
  · replace H := H.2 c
    refine gw_aload_n CX.1 0 rfl dModel_findPlan_15 rfl ?_
    refine gg_Model_68 CX.1 rfl dModel_findPlan_16 ?_
    refine gw_iload_n CX.1 1 rfl dModel_findPlan_19 rfl ?_
    refine gw_iconst (v := 1) CX.1 dModel_findPlan_20 (by decide) ?_
    refine gw_iadd CX.1 dModel_findPlan_21 ?_
    refine gw_iconst (v := 3) CX.1 dModel_findPlan_22 (by decide) ?_
    refine gw_aload_n CX.1 0 rfl dModel_findPlan_23 rfl ?_
    refine gg_Model_68 CX.1 rfl dModel_findPlan_24 ?_
    refine gw_iload_n CX.1 1 rfl dModel_findPlan_27 rfl ?_
    obtain ⟨hin, H⟩ := H
    refine ga_58 CX.1 hin dModel_findPlan_28 ?_
    refine gw_imul CX.1 dModel_findPlan_29 ?_
    obtain ⟨hin, H⟩ := H
    refine gs_58 CX.1 hin dModel_findPlan_30 ?_
    refine gw_iinc (v := (x1 + 1)) CX.1 1 rfl dModel_findPlan_31 rfl (by decide) rfl ?_
    refine gw_goto (tgt := 9) CX.1 dModel_findPlan_34 (by decide) ?_
    exact gw_sub [1, 0] rfl (H X CX)
theorem eModel_findPlan {D : va_G} {d : Nat} {Q : Int32 → (Nat → Nat → Int32) → (Nat → Int64) → Prop} {F : Nat → Nat → Int32} {G : Nat → Int64} (H : AWi D (d + 1) nModel_findPlan 9 [(0, .ref 39), (1, .int 0)] [] (up F 58 ((0 : Int32).toNatClampNeg) 1) G Q) : AMi D (d + 1) nModel_findPlan [.ref 39] F G Q := by
  refine AM_intro (by decide) (Nat.le_of_ble_eq_true rfl) ?_
  intro X CX
  refine gw_aload_n CX.1 0 rfl dModel_findPlan_0 rfl ?_
  refine gg_Model_68 CX.1 rfl dModel_findPlan_1 ?_
  refine gw_iconst (v := 0) CX.1 dModel_findPlan_4 (by decide) ?_
  refine gw_iconst (v := 1) CX.1 dModel_findPlan_5 (by decide) ?_
  refine gs_58 CX.1 (vp_in_iff.mpr (by decide)) dModel_findPlan_6 ?_
  refine gw_iconst (v := 0) CX.1 dModel_findPlan_7 (by decide) ?_
  refine gw_istore_n CX.1 dModel_findPlan_8 rfl (by decide) rfl ?_
  exact gw_sub [1, 0] rfl (H X CX)
theorem eModel_mayPut {D : va_G} {d : Nat} {Q : Int32 → (Nat → Nat → Int32) → (Nat → Int64) → Prop} {F : Nat → Nat → Int32} {G : Nat → Int64} {a0 : Int32} {a1 : Int32} (H : AMi D d nModel_knows [.ref 39, .int a0, .int a1] F G (fun x1_ F1 G1 => ((x1_ = 0 → Q 0 F1 G1) ∧ (¬ (x1_ = 0) → AMi D d nModel_isFresh [.ref 39, .int a0, .int a1] F1 G1 (fun x2_ F2 G2 => ((¬ x2_ = 0 → Q 0 F2 G2) ∧ (x2_ = 0 → Q 1 F2 G2))))))) : AMi D (d + 1) nModel_mayPut [.ref 39, .int a0, .int a1] F G Q := by
  refine AM_intro (by decide) (Nat.le_of_ble_eq_true rfl) ?_
  intro X CX
  refine gw_aload_n CX.1 0 rfl dModel_mayPut_0 rfl ?_
  refine gw_iload_n CX.1 1 rfl dModel_mayPut_1 rfl ?_
  refine gw_iload_n CX.1 2 rfl dModel_mayPut_2 rfl ?_
  refine cl_Model_knows CX (Nat.le_of_ble_eq_true rfl) wm_Model_122 dModel_mayPut_3 H (fun x1_ F1 G1 H => ?_)
  refine gw_if_eq (tgt := 22) CX.1 dModel_mayPut_6 (by decide) (fun c => ?_) (fun c => ?_)
  · replace H := H.1 c
    refine gw_iconst (v := 0) CX.1 dModel_mayPut_22 (by decide) ?_
    exact gw_iret CX rfl (by decide) ⟨_, _, _, rfl, rfl, H⟩ (Nat.zero_le _) (Nat.zero_le _) dModel_mayPut_23
  · replace H := H.2 c
    refine gw_aload_n CX.1 0 rfl dModel_mayPut_9 rfl ?_
    refine gw_iload_n CX.1 1 rfl dModel_mayPut_10 rfl ?_
    refine gw_iload_n CX.1 2 rfl dModel_mayPut_11 rfl ?_
    refine cl_Model_isFresh CX (Nat.le_of_ble_eq_true rfl) wm_Model_125 dModel_mayPut_12 H (fun x2_ F2 G2 H => ?_)
    refine gw_if_ne (tgt := 22) CX.1 dModel_mayPut_15 (by decide) (fun c => ?_) (fun c => ?_)
    · replace H := H.1 c
      refine gw_iconst (v := 0) CX.1 dModel_mayPut_22 (by decide) ?_
      exact gw_iret CX rfl (by decide) ⟨_, _, _, rfl, rfl, H⟩ (Nat.zero_le _) (Nat.zero_le _) dModel_mayPut_23
    · replace H := H.2 c
      refine gw_iconst (v := 1) CX.1 dModel_mayPut_18 (by decide) ?_
      refine gw_goto (tgt := 23) CX.1 dModel_mayPut_19 (by decide) ?_
      exact gw_iret CX rfl (by decide) ⟨_, _, _, rfl, rfl, H⟩ (Nat.zero_le _) (Nat.zero_le _) dModel_mayPut_23
theorem eModel_behind {D : va_G} {d : Nat} {Q : Int32 → (Nat → Nat → Int32) → (Nat → Int64) → Prop} {F : Nat → Nat → Int32} {G : Nat → Int64} {a0 : Int32} {a1 : Int32} (H : vp_in a1 9 ∧ ¬ (F 58 a1.toNatClampNeg) = 0 ∧ ((((a0 / (F 58 a1.toNatClampNeg)) - (a0 / (F 58 a1.toNatClampNeg)) / 3 * 3) ≤ 0 → Q a0 F G) ∧ (¬ (((a0 / (F 58 a1.toNatClampNeg)) - (a0 / (F 58 a1.toNatClampNeg)) / 3 * 3) ≤ 0) → vp_in a1 9 ∧ Q (a0 - (F 58 a1.toNatClampNeg)) F G))) : AMi D (d + 1) nModel_behind [.ref 39, .int a0, .int a1] F G Q := by
  refine AM_intro (by decide) (Nat.le_of_ble_eq_true rfl) ?_
  intro X CX
  refine gw_iload_n CX.1 1 rfl dModel_behind_0 rfl ?_
  refine gw_aload_n CX.1 0 rfl dModel_behind_1 rfl ?_
  refine gg_Model_68 CX.1 rfl dModel_behind_2 ?_
  refine gw_iload_n CX.1 2 rfl dModel_behind_5 rfl ?_
  obtain ⟨hin, H⟩ := H
  refine ga_58 CX.1 hin dModel_behind_6 ?_
  obtain ⟨hne, H⟩ := H
  refine gw_idiv CX.1 dModel_behind_7 hne ?_
  refine gw_iconst (v := 3) CX.1 dModel_behind_8 (by decide) ?_
  refine gw_irem CX.1 dModel_behind_9 (by decide) ?_
  refine gw_if_le (tgt := 24) CX.1 dModel_behind_10 (by decide) (fun c => ?_) (fun c => ?_)
  · replace H := H.1 c
    refine gw_iload_n CX.1 1 rfl dModel_behind_24 rfl ?_
    exact gw_iret CX rfl rfl ⟨_, _, _, rfl, rfl, H⟩ (Nat.zero_le _) (Nat.zero_le _) dModel_behind_25
  · replace H := H.2 c
    refine gw_iload_n CX.1 1 rfl dModel_behind_13 rfl ?_
    refine gw_aload_n CX.1 0 rfl dModel_behind_14 rfl ?_
    refine gg_Model_68 CX.1 rfl dModel_behind_15 ?_
    refine gw_iload_n CX.1 2 rfl dModel_behind_18 rfl ?_
    obtain ⟨hin, H⟩ := H
    refine ga_58 CX.1 hin dModel_behind_19 ?_
    refine gw_isub CX.1 dModel_behind_20 ?_
    refine gw_goto (tgt := 25) CX.1 dModel_behind_21 (by decide) ?_
    exact gw_iret CX rfl rfl ⟨_, _, _, rfl, rfl, H⟩ (Nat.zero_le _) (Nat.zero_le _) dModel_behind_25
theorem bModel_hours_4 {D : va_G} {d : Nat} {Q : Int32 → (Nat → Nat → Int32) → (Nat → Int64) → Prop} {F : Nat → Nat → Int32} {G : Nat → Int64} {x1 : Int32} {x2 : Int32} {x3 : Int32} (H : ((30 ≤ x3 → Q ((x2 / 4) + 1) F G) ∧ (¬ (30 ≤ x3) → AMi D d nModel_is [.ref 39, .int x1, .int x3] F G (fun x1_ F1 G1 => ((x1_ = 0 → AWi D (d + 1) nModel_hours 4 [(0, .ref 39), (1, .int x1), (2, .int (x2 + 0)), (3, .int (x3 + 1))] [] F1 G1 Q) ∧ (¬ (x1_ = 0) → AWi D (d + 1) nModel_hours 4 [(0, .ref 39), (1, .int x1), (2, .int (x2 + 1)), (3, .int (x3 + 1))] [] F1 G1 Q)))))) : AWi D (d + 1) nModel_hours 4 [(0, .ref 39), (1, .int x1), (2, .int x2), (3, .int x3)] [] F G Q := by
  intro X CX
  refine gw_iload_n CX.1 3 rfl dModel_hours_4 rfl ?_
  refine gw_bipush (v := 30) CX.1 dModel_hours_5 (by decide) ?_
  refine gw_icmp_ge (tgt := 33) CX.1 dModel_hours_7 (by decide) (fun c => ?_) (fun c => ?_)
  · replace H := H.1 c
    refine gw_iload_n CX.1 2 rfl dModel_hours_33 rfl ?_
    refine gw_iconst (v := 4) CX.1 dModel_hours_34 (by decide) ?_
    refine gw_idiv CX.1 dModel_hours_35 (by decide) ?_
    refine gw_iconst (v := 1) CX.1 dModel_hours_36 (by decide) ?_
    refine gw_iadd CX.1 dModel_hours_37 ?_
    exact gw_iret CX rfl rfl ⟨_, _, _, rfl, rfl, H⟩ (Nat.zero_le _) (Nat.zero_le _) dModel_hours_38
  · replace H := H.2 c
    refine gw_iload_n CX.1 2 rfl dModel_hours_10 rfl ?_
    refine gw_aload_n CX.1 0 rfl dModel_hours_11 rfl ?_
    refine gw_iload_n CX.1 1 rfl dModel_hours_12 rfl ?_
    refine gw_iload_n CX.1 3 rfl dModel_hours_13 rfl ?_
    refine cl_Model_is CX (Nat.le_of_ble_eq_true rfl) wm_Model_99 dModel_hours_14 H (fun x1_ F1 G1 H => ?_)
    refine gw_if_eq (tgt := 24) CX.1 dModel_hours_17 (by decide) (fun c => ?_) (fun c => ?_)
    · replace H := H.1 c
      refine gw_iconst (v := 0) CX.1 dModel_hours_24 (by decide) ?_
      refine gw_iadd CX.1 dModel_hours_25 ?_
      refine gw_istore_n CX.1 dModel_hours_26 rfl (by decide) rfl ?_
      refine gw_iinc (v := (x3 + 1)) CX.1 3 rfl dModel_hours_27 rfl (by decide) rfl ?_
      refine gw_goto (tgt := 4) CX.1 dModel_hours_30 (by decide) ?_
      exact gw_sub [2, 3, 1, 0] rfl (H X CX)
    · replace H := H.2 c
      refine gw_iconst (v := 1) CX.1 dModel_hours_20 (by decide) ?_
      refine gw_goto (tgt := 25) CX.1 dModel_hours_21 (by decide) ?_
      refine gw_iadd CX.1 dModel_hours_25 ?_
      refine gw_istore_n CX.1 dModel_hours_26 rfl (by decide) rfl ?_
      refine gw_iinc (v := (x3 + 1)) CX.1 3 rfl dModel_hours_27 rfl (by decide) rfl ?_
      refine gw_goto (tgt := 4) CX.1 dModel_hours_30 (by decide) ?_
      exact gw_sub [2, 3, 1, 0] rfl (H X CX)
theorem eModel_hours {D : va_G} {d : Nat} {Q : Int32 → (Nat → Nat → Int32) → (Nat → Int64) → Prop} {F : Nat → Nat → Int32} {G : Nat → Int64} {a0 : Int32} (H : AWi D (d + 1) nModel_hours 4 [(0, .ref 39), (1, .int a0), (2, .int 0), (3, .int 0)] [] F G Q) : AMi D (d + 1) nModel_hours [.ref 39, .int a0] F G Q := by
  refine AM_intro (by decide) (Nat.le_of_ble_eq_true rfl) ?_
  intro X CX
  refine gw_iconst (v := 0) CX.1 dModel_hours_0 (by decide) ?_
  refine gw_istore_n CX.1 dModel_hours_1 rfl (by decide) rfl ?_
  refine gw_iconst (v := 0) CX.1 dModel_hours_2 (by decide) ?_
  refine gw_istore_n CX.1 dModel_hours_3 rfl (by decide) rfl ?_
  exact gw_sub [2, 3, 1, 0] rfl (H X CX)
theorem bModel_putIn_143 {D : va_G} {d : Nat} {Q : Int32 → (Nat → Nat → Int32) → (Nat → Int64) → Prop} {F : Nat → Nat → Int32} {G : Nat → Int64} {x1 : Int32} {x2 : Int32} {x3 : Int32} {x4 : Int32} {x5 : Int32} (H : ((¬ x3 = (-1000000005) → AMi D d nModel_behind [.ref 39, .int x2, .int x3] F G (fun x1_ F1 G1 => AWi D (d + 1) nModel_putIn 34 [(0, .ref 39), (1, .int x1), (2, .int x1_), (3, .int x3), (4, .int (x4 + 1))] [] F1 G1 Q)) ∧ (x3 = (-1000000005) → AWi D (d + 1) nModel_putIn 34 [(0, .ref 39), (1, .int x1), (2, .int x2), (3, .int x3), (4, .int (x4 + 1))] [] F G Q))) : AWi D (d + 1) nModel_putIn 143 [(0, .ref 39), (1, .int x1), (2, .int x2), (3, .int x3), (4, .int x4), (5, .int x5)] [] F G Q := by
  intro X CX
  refine gw_iload_n CX.1 3 rfl dModel_putIn_143 rfl ?_
  refine gw_ldc CX.1 wc_Model_94 dModel_putIn_144 ?_
  refine gw_icmp_ne (tgt := 153) CX.1 dModel_putIn_146 (by decide) (fun c => ?_) (fun c => ?_)
  · replace H := H.1 c
    refine gw_aload_n CX.1 0 rfl dModel_putIn_153 rfl ?_
    refine gw_iload_n CX.1 2 rfl dModel_putIn_154 rfl ?_
    refine gw_iload_n CX.1 3 rfl dModel_putIn_155 rfl ?_
    refine cl_Model_behind CX (Nat.le_of_ble_eq_true rfl) wm_Model_191 dModel_putIn_156 H (fun x1_ F1 G1 H => ?_)
    refine gw_istore_n CX.1 dModel_putIn_159 rfl (by decide) rfl ?_
    refine gw_iinc (v := (x4 + 1)) CX.1 4 rfl dModel_putIn_160 rfl (by decide) rfl ?_
    refine gw_goto (tgt := 34) CX.1 dModel_putIn_163 (by decide) ?_
    exact gw_sub [2, 3, 1, 4, 0] rfl (H X CX)
  · replace H := H.2 c
    refine gw_iload_n CX.1 2 rfl dModel_putIn_149 rfl ?_
    refine gw_goto (tgt := 159) CX.1 dModel_putIn_150 (by decide) ?_
    refine gw_istore_n CX.1 dModel_putIn_159 rfl (by decide) rfl ?_
    refine gw_iinc (v := (x4 + 1)) CX.1 4 rfl dModel_putIn_160 rfl (by decide) rfl ?_
    refine gw_goto (tgt := 34) CX.1 dModel_putIn_163 (by decide) ?_
    exact gw_sub [2, 3, 1, 4, 0] rfl (H X CX)
theorem bModel_putIn_34 {D : va_G} {d : Nat} {Q : Int32 → (Nat → Nat → Int32) → (Nat → Int64) → Prop} {F : Nat → Nat → Int32} {G : Nat → Int64} {x1 : Int32} {x2 : Int32} {x3 : Int32} {x4 : Int32} (H : ((x1 < x4 → Q x3 F G) ∧ (¬ (x1 < x4) → AWi D (d + 1) nModel_putIn 46 [(0, .ref 39), (1, .int x1), (2, .int x2), (3, .int (-1000000005)), (4, .int x4), (5, .int 0)] [] F G Q))) : AWi D (d + 1) nModel_putIn 34 [(0, .ref 39), (1, .int x1), (2, .int x2), (3, .int x3), (4, .int x4)] [] F G Q := by
  intro X CX
  refine gw_iload CX.1 4 rfl dModel_putIn_34 ?_
  refine gw_iload_n CX.1 1 rfl dModel_putIn_36 rfl ?_
  refine gw_icmp_gt (tgt := 166) CX.1 dModel_putIn_37 (by decide) (fun c => ?_) (fun c => ?_)
  · replace H := H.1 c
    refine gw_iload_n CX.1 3 rfl dModel_putIn_166 rfl ?_
    exact gw_iret CX rfl rfl ⟨_, _, _, rfl, rfl, H⟩ (Nat.zero_le _) (Nat.zero_le _) dModel_putIn_167
  · replace H := H.2 c
    refine gw_ldc CX.1 wc_Model_94 dModel_putIn_40 ?_
    refine gw_istore_n CX.1 dModel_putIn_42 rfl (by decide) rfl ?_
    refine gw_iconst (v := 0) CX.1 dModel_putIn_43 (by decide) ?_
    refine gw_istore CX.1 dModel_putIn_44 (by decide) rfl ?_
    exact gw_sub [2, 3, 4, 1, 5, 0] rfl (H X CX)
theorem bModel_putIn_46 {D : va_G} {d : Nat} {Q : Int32 → (Nat → Nat → Int32) → (Nat → Int64) → Prop} {F : Nat → Nat → Int32} {G : Nat → Int64} {x1 : Int32} {x2 : Int32} {x3 : Int32} {x4 : Int32} {x5 : Int32} (H : (((F 110 0) ≤ x5 → AWi D (d + 1) nModel_putIn 143 [(0, .ref 39), (1, .int x1), (2, .int x2), (3, .int x3), (4, .int x4), (5, .int x5)] [] F G Q) ∧ (¬ ((F 110 0) ≤ x5) → ((¬ x3 = (-1000000005) → AWi D (d + 1) nModel_putIn 143 [(0, .ref 39), (1, .int x1), (2, .int x2), (3, .int x3), (4, .int x4), (5, .int x5)] [] F G Q) ∧ (x3 = (-1000000005) → AMi D d nModel_mayPut [.ref 39, .int x4, .int x5] F G (fun x1_ F1 G1 => ((x1_ = 0 → AWi D (d + 1) nModel_putIn 97 [(0, .ref 39), (1, .int x1), (2, .int x2), (3, .int x3), (4, .int x4), (5, .int x5)] [.int (-1)] F1 G1 Q) ∧ (¬ (x1_ = 0) → AMi D d nModel_behind [.ref 39, .int x2, .int x5] F1 G1 (fun x2_ F2 G2 => vp_in ((6561 * (x4 + 1)) + x2_) 72171 ∧ AWi D (d + 1) nModel_putIn 97 [(0, .ref 39), (1, .int x1), (2, .int x2), (3, .int x3), (4, .int x4), (5, .int x5)] [.int (F2 57 ((6561 * (x4 + 1)) + x2_).toNatClampNeg)] F2 G2 Q))))))))) : AWi D (d + 1) nModel_putIn 46 [(0, .ref 39), (1, .int x1), (2, .int x2), (3, .int x3), (4, .int x4), (5, .int x5)] [] F G Q := by
  intro X CX
  refine gw_iload CX.1 5 rfl dModel_putIn_46 ?_
  refine gw_aload_n CX.1 0 rfl dModel_putIn_48 rfl ?_
  refine gg_Model_74 CX.1 rfl dModel_putIn_49 ?_
  refine gw_icmp_ge (tgt := 143) CX.1 dModel_putIn_52 (by decide) (fun c => ?_) (fun c => ?_)
  · replace H := H.1 c
    exact H X CX
  · replace H := H.2 c
    refine gw_iload_n CX.1 3 rfl dModel_putIn_55 rfl ?_
    refine gw_ldc CX.1 wc_Model_94 dModel_putIn_56 ?_
    refine gw_icmp_ne (tgt := 143) CX.1 dModel_putIn_58 (by decide) (fun c => ?_) (fun c => ?_)
    · replace H := H.1 c
      exact H X CX
    · replace H := H.2 c
      refine gw_aload_n CX.1 0 rfl dModel_putIn_61 rfl ?_
      refine gw_iload CX.1 4 rfl dModel_putIn_62 ?_
      refine gw_iload CX.1 5 rfl dModel_putIn_64 ?_
      refine cl_Model_mayPut CX (Nat.le_of_ble_eq_true rfl) wm_Model_188 dModel_putIn_66 H (fun x1_ F1 G1 H => ?_)
      refine gw_if_eq (tgt := 96) CX.1 dModel_putIn_69 (by decide) (fun c => ?_) (fun c => ?_)
      · replace H := H.1 c
        refine gw_iconst (v := (-1)) CX.1 dModel_putIn_96 (by decide) ?_
        exact H X CX
      · replace H := H.2 c
        refine gw_aload_n CX.1 0 rfl dModel_putIn_72 rfl ?_
        refine gg_Model_65 CX.1 rfl dModel_putIn_73 ?_
        refine gw_sipush (v := 6561) CX.1 dModel_putIn_76 (by decide) ?_
        refine gw_iload CX.1 4 rfl dModel_putIn_79 ?_
        refine gw_iconst (v := 1) CX.1 dModel_putIn_81 (by decide) ?_
        refine gw_iadd CX.1 dModel_putIn_82 ?_
        refine gw_imul CX.1 dModel_putIn_83 ?_
        refine gw_aload_n CX.1 0 rfl dModel_putIn_84 rfl ?_
        refine gw_iload_n CX.1 2 rfl dModel_putIn_85 rfl ?_
        refine gw_iload CX.1 5 rfl dModel_putIn_86 ?_
        refine cl_Model_behind CX (Nat.le_of_ble_eq_true rfl) wm_Model_191 dModel_putIn_88 H (fun x2_ F2 G2 H => ?_)
        refine gw_iadd CX.1 dModel_putIn_91 ?_
        obtain ⟨hin, H⟩ := H
        refine ga_57 CX.1 hin dModel_putIn_92 ?_
        refine gw_goto (tgt := 97) CX.1 dModel_putIn_93 (by decide) ?_
        exact H X CX
theorem bModel_putIn_97 {D : va_G} {d : Nat} {Q : Int32 → (Nat → Nat → Int32) → (Nat → Int64) → Prop} {F : Nat → Nat → Int32} {G : Nat → Int64} {x1 : Int32} {x2 : Int32} {x3 : Int32} {x4 : Int32} {x5 : Int32} {s0 : Int32} (H : ((s0 < 0 → AWi D (d + 1) nModel_putIn 46 [(0, .ref 39), (1, .int x1), (2, .int x2), (3, .int (-1000000005)), (4, .int x4), (5, .int (x5 + 1))] [] F G Q) ∧ (¬ (s0 < 0) → AMi D d nModel_hours [.ref 39, .int x5] F G (fun x1_ F1 G1 => vp_in ((6561 * x4) + x2) 72171 ∧ ((¬ (s0 + x1_) = (F1 57 ((6561 * x4) + x2).toNatClampNeg) → AWi D (d + 1) nModel_putIn 46 [(0, .ref 39), (1, .int x1), (2, .int x2), (3, .int (-1000000005)), (4, .int x4), (5, .int (x5 + 1))] [] F1 G1 Q) ∧ ((s0 + x1_) = (F1 57 ((6561 * x4) + x2).toNatClampNeg) → AWi D (d + 1) nModel_putIn 46 [(0, .ref 39), (1, .int x1), (2, .int x2), (3, .int x5), (4, .int x4), (5, .int (x5 + 1))] [] F1 G1 Q)))))) : AWi D (d + 1) nModel_putIn 97 [(0, .ref 39), (1, .int x1), (2, .int x2), (3, .int x3), (4, .int x4), (5, .int x5)] [.int s0] F G Q := by
  intro X CX
  refine gw_istore CX.1 dModel_putIn_97 (by decide) rfl ?_
  refine gw_iload CX.1 0 rfl dModel_putIn_99 ?_
  refine gw_if_lt (tgt := 134) CX.1 dModel_putIn_101 (by decide) (fun c => ?_) (fun c => ?_)
  · replace H := H.1 c
    refine gw_ldc CX.1 wc_Model_94 dModel_putIn_134 ?_
    refine gw_istore_n CX.1 dModel_putIn_136 rfl (by decide) rfl ?_
    refine gw_iinc (v := (x5 + 1)) CX.1 6 rfl dModel_putIn_137 rfl (by decide) rfl ?_
    refine gw_goto (tgt := 46) CX.1 dModel_putIn_140 (by decide) ?_
    exact gw_sub [3, 4, 5, 1, 6, 0] rfl (H X CX)
  · replace H := H.2 c
    refine gw_iload CX.1 0 rfl dModel_putIn_104 ?_
    refine gw_aload_n CX.1 1 rfl dModel_putIn_106 rfl ?_
    refine gw_iload CX.1 6 rfl dModel_putIn_107 ?_
    refine cl_Model_hours CX (Nat.le_of_ble_eq_true rfl) wm_Model_194 dModel_putIn_109 H (fun x1_ F1 G1 H => ?_)
    refine gw_iadd CX.1 dModel_putIn_112 ?_
    refine gw_aload_n CX.1 1 rfl dModel_putIn_113 rfl ?_
    refine gg_Model_65 CX.1 rfl dModel_putIn_114 ?_
    refine gw_sipush (v := 6561) CX.1 dModel_putIn_117 (by decide) ?_
    refine gw_iload CX.1 5 rfl dModel_putIn_120 ?_
    refine gw_imul CX.1 dModel_putIn_122 ?_
    refine gw_iload_n CX.1 3 rfl dModel_putIn_123 rfl ?_
    refine gw_iadd CX.1 dModel_putIn_124 ?_
    obtain ⟨hin, H⟩ := H
    refine ga_57 CX.1 hin dModel_putIn_125 ?_
    refine gw_icmp_ne (tgt := 134) CX.1 dModel_putIn_126 (by decide) (fun c => ?_) (fun c => ?_)
    · replace H := H.1 c
      refine gw_ldc CX.1 wc_Model_94 dModel_putIn_134 ?_
      refine gw_istore_n CX.1 dModel_putIn_136 rfl (by decide) rfl ?_
      refine gw_iinc (v := (x5 + 1)) CX.1 6 rfl dModel_putIn_137 rfl (by decide) rfl ?_
      refine gw_goto (tgt := 46) CX.1 dModel_putIn_140 (by decide) ?_
      exact gw_sub [3, 4, 5, 1, 6, 0] rfl (H X CX)
    · replace H := H.2 c
      refine gw_iload CX.1 6 rfl dModel_putIn_129 ?_
      refine gw_goto (tgt := 136) CX.1 dModel_putIn_131 (by decide) ?_
      refine gw_istore_n CX.1 dModel_putIn_136 rfl (by decide) rfl ?_
      refine gw_iinc (v := (x5 + 1)) CX.1 6 rfl dModel_putIn_137 rfl (by decide) rfl ?_
      refine gw_goto (tgt := 46) CX.1 dModel_putIn_140 (by decide) ?_
      exact gw_sub [3, 4, 5, 1, 6, 0] rfl (H X CX)
theorem eModel_putIn {D : va_G} {d : Nat} {Q : Int32 → (Nat → Nat → Int32) → (Nat → Int64) → Prop} {F : Nat → Nat → Int32} {G : Nat → Int64} {a0 : Int32} (H : AMi D d nModel_isPerson [.ref 39, .int a0] F G (fun x1_ F1 G1 => ((¬ x1_ = 0 → AMi D d nModel_findPlan [.ref 39] F1 G1 (fun x2_ F2 G2 => vp_in x2_ 72171 ∧ ((0 ≤ (F2 57 x2_.toNatClampNeg) → AWi D (d + 1) nModel_putIn 34 [(0, .ref 39), (1, .int a0), (2, .int x2_), (3, .int (-1000000005)), (4, .int 0)] [] F2 G2 Q) ∧ (¬ (0 ≤ (F2 57 x2_.toNatClampNeg)) → Q (-1000000002) F2 G2)))) ∧ (x1_ = 0 → Q (-1000000001) F1 G1)))) : AMi D (d + 1) nModel_putIn [.ref 39, .int a0] F G Q := by
  refine AM_intro (by decide) (Nat.le_of_ble_eq_true rfl) ?_
  intro X CX
  refine gw_aload_n CX.1 0 rfl dModel_putIn_0 rfl ?_
  refine gw_iload_n CX.1 1 rfl dModel_putIn_1 rfl ?_
  refine cl_Model_isPerson CX (Nat.le_of_ble_eq_true rfl) wm_Model_109 dModel_putIn_2 H (fun x1_ F1 G1 H => ?_)
  refine gw_if_ne (tgt := 11) CX.1 dModel_putIn_5 (by decide) (fun c => ?_) (fun c => ?_)
  · replace H := H.1 c
    refine gw_aload_n CX.1 0 rfl dModel_putIn_11 rfl ?_
    refine cl_Model_findPlan CX (Nat.le_of_ble_eq_true rfl) wm_Model_197 dModel_putIn_12 H (fun x2_ F2 G2 H => ?_)
    refine gw_istore_n CX.1 dModel_putIn_15 rfl (by decide) rfl ?_
    refine gw_aload_n CX.1 1 rfl dModel_putIn_16 rfl ?_
    refine gg_Model_65 CX.1 rfl dModel_putIn_17 ?_
    refine gw_iload_n CX.1 0 rfl dModel_putIn_20 rfl ?_
    obtain ⟨hin, H⟩ := H
    refine ga_57 CX.1 hin dModel_putIn_21 ?_
    refine gw_if_ge (tgt := 28) CX.1 dModel_putIn_22 (by decide) (fun c => ?_) (fun c => ?_)
    · replace H := H.1 c
      refine gw_ldc CX.1 wc_Model_94 dModel_putIn_28 ?_
      refine gw_istore_n CX.1 dModel_putIn_30 rfl (by decide) rfl ?_
      refine gw_iconst (v := 0) CX.1 dModel_putIn_31 (by decide) ?_
      refine gw_istore CX.1 dModel_putIn_32 (by decide) rfl ?_
      exact gw_sub [3, 4, 2, 1, 0] rfl (H X CX)
    · replace H := H.2 c
      refine gw_ldc CX.1 wc_Model_103 dModel_putIn_25 ?_
      exact gw_iret CX rfl rfl ⟨_, _, _, rfl, rfl, H⟩ (Nat.zero_le _) (Nat.zero_le _) dModel_putIn_27
  · replace H := H.2 c
    refine gw_ldc CX.1 wc_Model_85 dModel_putIn_8 ?_
    exact gw_iret CX rfl rfl ⟨_, _, _, rfl, rfl, H⟩ (Nat.zero_le _) (Nat.zero_le _) dModel_putIn_10
theorem bModel_sheet_32 {D : va_G} {d : Nat} {Q : Int32 → (Nat → Nat → Int32) → (Nat → Int64) → Prop} {F : Nat → Nat → Int32} {G : Nat → Int64} {x1 : Int32} {x2 : Int32} {x3 : Int32} (H : ((x2 ≤ x3 → Q x2 F G) ∧ (¬ (x2 ≤ x3) → vp_in ((30 * x1) + x3) 60 ∧ AWi D (d + 1) nModel_sheet 32 [(0, .ref 39), (1, .int x1), (2, .int x2), (3, .int (x3 + 1))] [] (up F 54 (((30 * x1) + x3).toNatClampNeg) 0) G Q))) : AWi D (d + 1) nModel_sheet 32 [(0, .ref 39), (1, .int x1), (2, .int x2), (3, .int x3)] [] F G Q := by
  intro X CX
  refine gw_iload_n CX.1 3 rfl dModel_sheet_32 rfl ?_
  refine gw_iload_n CX.1 2 rfl dModel_sheet_33 rfl ?_
  refine gw_icmp_ge (tgt := 55) CX.1 dModel_sheet_34 (by decide) (fun c => ?_) (fun c => ?_)
  · replace H := H.1 c
    refine gw_iload_n CX.1 2 rfl dModel_sheet_55 rfl ?_
    exact gw_iret CX rfl rfl ⟨_, _, _, rfl, rfl, H⟩ (Nat.zero_le _) (Nat.zero_le _) dModel_sheet_56
  · replace H := H.2 c
    refine gw_aload_n CX.1 0 rfl dModel_sheet_37 rfl ?_
    refine gg_Model_55 CX.1 rfl dModel_sheet_38 ?_
    refine gw_bipush (v := 30) CX.1 dModel_sheet_41 (by decide) ?_
    refine gw_iload_n CX.1 1 rfl dModel_sheet_43 rfl ?_
    refine gw_imul CX.1 dModel_sheet_44 ?_
    refine gw_iload_n CX.1 3 rfl dModel_sheet_45 rfl ?_
    refine gw_iadd CX.1 dModel_sheet_46 ?_
    refine gw_iconst (v := 0) CX.1 dModel_sheet_47 (by decide) ?_
    obtain ⟨hin, H⟩ := H
    refine gs_54 CX.1 hin dModel_sheet_48 ?_
    refine gw_iinc (v := (x3 + 1)) CX.1 3 rfl dModel_sheet_49 rfl (by decide) rfl ?_
    refine gw_goto (tgt := 32) CX.1 dModel_sheet_52 (by decide) ?_
    exact gw_sub [1, 2, 3, 0] rfl (H X CX)
theorem eModel_sheet {D : va_G} {d : Nat} {Q : Int32 → (Nat → Nat → Int32) → (Nat → Int64) → Prop} {F : Nat → Nat → Int32} {G : Nat → Int64} {a0 : Int32} {a1 : Int32} (H : AMi D d nModel_isSheet [.int a0] F G (fun x1_ F1 G1 => ((x1_ = 0 → Q (-1000000001) F1 G1) ∧ (¬ (x1_ = 0) → ((a1 ≤ 30 → ((0 ≤ a1 → vp_in a0 2 ∧ AWi D (d + 1) nModel_sheet 32 [(0, .ref 39), (1, .int a0), (2, .int a1), (3, .int 0)] [] (up F1 53 (a0.toNatClampNeg) a1) G1 Q) ∧ (¬ (0 ≤ a1) → Q (-1000000014) F1 G1))) ∧ (¬ (a1 ≤ 30) → Q (-1000000001) F1 G1)))))) : AMi D (d + 1) nModel_sheet [.ref 39, .int a0, .int a1] F G Q := by
  refine AM_intro (by decide) (Nat.le_of_ble_eq_true rfl) ?_
  intro X CX
  refine gw_iload_n CX.1 1 rfl dModel_sheet_0 rfl ?_
  refine cl_Model_isSheet CX (Nat.le_of_ble_eq_true rfl) wm_Model_104 dModel_sheet_1 H (fun x1_ F1 G1 H => ?_)
  refine gw_if_eq (tgt := 13) CX.1 dModel_sheet_4 (by decide) (fun c => ?_) (fun c => ?_)
  · replace H := H.1 c
    refine gw_ldc CX.1 wc_Model_85 dModel_sheet_13 ?_
    exact gw_iret CX rfl rfl ⟨_, _, _, rfl, rfl, H⟩ (Nat.zero_le _) (Nat.zero_le _) dModel_sheet_15
  · replace H := H.2 c
    refine gw_iload_n CX.1 2 rfl dModel_sheet_7 rfl ?_
    refine gw_bipush (v := 30) CX.1 dModel_sheet_8 (by decide) ?_
    refine gw_icmp_le (tgt := 16) CX.1 dModel_sheet_10 (by decide) (fun c => ?_) (fun c => ?_)
    · replace H := H.1 c
      refine gw_iload_n CX.1 2 rfl dModel_sheet_16 rfl ?_
      refine gw_if_ge (tgt := 23) CX.1 dModel_sheet_17 (by decide) (fun c => ?_) (fun c => ?_)
      · replace H := H.1 c
        refine gw_aload_n CX.1 0 rfl dModel_sheet_23 rfl ?_
        refine gg_Model_52 CX.1 rfl dModel_sheet_24 ?_
        refine gw_iload_n CX.1 1 rfl dModel_sheet_27 rfl ?_
        refine gw_iload_n CX.1 2 rfl dModel_sheet_28 rfl ?_
        obtain ⟨hin, H⟩ := H
        refine gs_53 CX.1 hin dModel_sheet_29 ?_
        refine gw_iconst (v := 0) CX.1 dModel_sheet_30 (by decide) ?_
        refine gw_istore_n CX.1 dModel_sheet_31 rfl (by decide) rfl ?_
        exact gw_sub [1, 2, 3, 0] rfl (H X CX)
      · replace H := H.2 c
        refine gw_ldc CX.1 wc_Model_200 dModel_sheet_20 ?_
        exact gw_iret CX rfl rfl ⟨_, _, _, rfl, rfl, H⟩ (Nat.zero_le _) (Nat.zero_le _) dModel_sheet_22
    · replace H := H.2 c
      refine gw_ldc CX.1 wc_Model_85 dModel_sheet_13 ?_
      exact gw_iret CX rfl rfl ⟨_, _, _, rfl, rfl, H⟩ (Nat.zero_le _) (Nat.zero_le _) dModel_sheet_15
theorem eModel_mark {D : va_G} {d : Nat} {Q : Int32 → (Nat → Nat → Int32) → (Nat → Int64) → Prop} {F : Nat → Nat → Int32} {G : Nat → Int64} {a0 : Int32} {a1 : Int32} {a2 : Int32} (H : AMi D d nModel_isSheet [.int a0] F G (fun x1_ F1 G1 => ((¬ x1_ = 0 → vp_in a0 2 ∧ ((0 ≤ (F1 53 a0.toNatClampNeg) → vp_in a0 2 ∧ AMi D d nModel_isIn [.int a1, .int 0, .int ((F1 53 a0.toNatClampNeg) - 1)] F1 G1 (fun x2_ F2 G2 => ((¬ x2_ = 0 → vp_in ((30 * a0) + a1) 60 ∧ vp_in ((30 * a0) + a1) 60 ∧ Q (F2 54 ((30 * a0) + a1).toNatClampNeg) (up F2 54 (((30 * a0) + a1).toNatClampNeg) (a2.toInt8.toInt32)) G2) ∧ (x2_ = 0 → Q (-1000000013) F2 G2)))) ∧ (¬ (0 ≤ (F1 53 a0.toNatClampNeg)) → Q (-1000000011) F1 G1))) ∧ (x1_ = 0 → Q (-1000000001) F1 G1)))) : AMi D (d + 1) nModel_mark [.ref 39, .int a0, .int a1, .int a2] F G Q := by
  refine AM_intro (by decide) (Nat.le_of_ble_eq_true rfl) ?_
  intro X CX
  refine gw_iload_n CX.1 1 rfl dModel_mark_0 rfl ?_
  refine cl_Model_isSheet CX (Nat.le_of_ble_eq_true rfl) wm_Model_104 dModel_mark_1 H (fun x1_ F1 G1 H => ?_)
  refine gw_if_ne (tgt := 10) CX.1 dModel_mark_4 (by decide) (fun c => ?_) (fun c => ?_)
  · replace H := H.1 c
    refine gw_aload_n CX.1 0 rfl dModel_mark_10 rfl ?_
    refine gg_Model_52 CX.1 rfl dModel_mark_11 ?_
    refine gw_iload_n CX.1 1 rfl dModel_mark_14 rfl ?_
    obtain ⟨hin, H⟩ := H
    refine ga_53 CX.1 hin dModel_mark_15 ?_
    refine gw_if_ge (tgt := 22) CX.1 dModel_mark_16 (by decide) (fun c => ?_) (fun c => ?_)
    · replace H := H.1 c
      refine gw_iload_n CX.1 2 rfl dModel_mark_22 rfl ?_
      refine gw_iconst (v := 0) CX.1 dModel_mark_23 (by decide) ?_
      refine gw_aload_n CX.1 0 rfl dModel_mark_24 rfl ?_
      refine gg_Model_52 CX.1 rfl dModel_mark_25 ?_
      refine gw_iload_n CX.1 1 rfl dModel_mark_28 rfl ?_
      obtain ⟨hin, H⟩ := H
      refine ga_53 CX.1 hin dModel_mark_29 ?_
      refine gw_iconst (v := 1) CX.1 dModel_mark_30 (by decide) ?_
      refine gw_isub CX.1 dModel_mark_31 ?_
      refine cl_Model_isIn CX (Nat.le_of_ble_eq_true rfl) wm_Model_78 dModel_mark_32 H (fun x2_ F2 G2 H => ?_)
      refine gw_if_ne (tgt := 41) CX.1 dModel_mark_35 (by decide) (fun c => ?_) (fun c => ?_)
      · replace H := H.1 c
        refine gw_aload_n CX.1 0 rfl dModel_mark_41 rfl ?_
        refine gg_Model_55 CX.1 rfl dModel_mark_42 ?_
        refine gw_bipush (v := 30) CX.1 dModel_mark_45 (by decide) ?_
        refine gw_iload_n CX.1 1 rfl dModel_mark_47 rfl ?_
        refine gw_imul CX.1 dModel_mark_48 ?_
        refine gw_iload_n CX.1 2 rfl dModel_mark_49 rfl ?_
        refine gw_iadd CX.1 dModel_mark_50 ?_
        obtain ⟨hin, H⟩ := H
        refine ga_54 CX.1 hin dModel_mark_51 ?_
        refine gw_istore CX.1 dModel_mark_52 (by decide) rfl ?_
        refine gw_aload_n CX.1 1 rfl dModel_mark_54 rfl ?_
        refine gg_Model_55 CX.1 rfl dModel_mark_55 ?_
        refine gw_bipush (v := 30) CX.1 dModel_mark_58 (by decide) ?_
        refine gw_iload_n CX.1 2 rfl dModel_mark_60 rfl ?_
        refine gw_imul CX.1 dModel_mark_61 ?_
        refine gw_iload_n CX.1 3 rfl dModel_mark_62 rfl ?_
        refine gw_iadd CX.1 dModel_mark_63 ?_
        refine gw_iload_n CX.1 4 rfl dModel_mark_64 rfl ?_
        refine gw_i2b CX.1 dModel_mark_65 ?_
        obtain ⟨hin, H⟩ := H
        refine gs_54 CX.1 hin dModel_mark_66 ?_
        refine gw_iload CX.1 0 rfl dModel_mark_67 ?_
        exact gw_iret CX rfl rfl ⟨_, _, _, rfl, rfl, H⟩ (Nat.zero_le _) (Nat.zero_le _) dModel_mark_69
      · replace H := H.2 c
        refine gw_ldc CX.1 wc_Model_108 dModel_mark_38 ?_
        exact gw_iret CX rfl rfl ⟨_, _, _, rfl, rfl, H⟩ (Nat.zero_le _) (Nat.zero_le _) dModel_mark_40
    · replace H := H.2 c
      refine gw_ldc CX.1 wc_Model_107 dModel_mark_19 ?_
      exact gw_iret CX rfl rfl ⟨_, _, _, rfl, rfl, H⟩ (Nat.zero_le _) (Nat.zero_le _) dModel_mark_21
  · replace H := H.2 c
    refine gw_ldc CX.1 wc_Model_85 dModel_mark_7 ?_
    exact gw_iret CX rfl rfl ⟨_, _, _, rfl, rfl, H⟩ (Nat.zero_le _) (Nat.zero_le _) dModel_mark_9
theorem bModel_copy_130 {D : va_G} {d : Nat} {Q : Int32 → (Nat → Nat → Int32) → (Nat → Int64) → Prop} {F : Nat → Nat → Int32} {G : Nat → Int64} {x1 : Int32} {x2 : Int32} {x3 : Int32} {x4 : Int32} {x5 : Int32} {x6 : Int32} (H : ((x5 ≤ x6 → Q x5 F G) ∧ (¬ (x5 ≤ x6) → vp_in x6 30 ∧ vp_in (((30 * x3) + x4) + x6) 60 ∧ AWi D (d + 1) nModel_copy 130 [(0, .ref 39), (1, .int x1), (2, .int x2), (3, .int x3), (4, .int x4), (5, .int x5), (6, .int (x6 + 1))] [] (up F 54 ((((30 * x3) + x4) + x6).toNatClampNeg) (F 59 x6.toNatClampNeg)) G Q))) : AWi D (d + 1) nModel_copy 130 [(0, .ref 39), (1, .int x1), (2, .int x2), (3, .int x3), (4, .int x4), (5, .int x5), (6, .int x6)] [] F G Q := by
  intro X CX
  refine gw_iload CX.1 6 rfl dModel_copy_130 ?_
  refine gw_iload CX.1 5 rfl dModel_copy_132 ?_
  refine gw_icmp_ge (tgt := 165) CX.1 dModel_copy_134 (by decide) (fun c => ?_) (fun c => ?_)
  · replace H := H.1 c
    refine gw_iload CX.1 5 rfl dModel_copy_165 ?_
    exact gw_iret CX rfl rfl ⟨_, _, _, rfl, rfl, H⟩ (Nat.zero_le _) (Nat.zero_le _) dModel_copy_167
  · replace H := H.2 c
    refine gw_aload_n CX.1 0 rfl dModel_copy_137 rfl ?_
    refine gg_Model_55 CX.1 rfl dModel_copy_138 ?_
    refine gw_bipush (v := 30) CX.1 dModel_copy_141 (by decide) ?_
    refine gw_iload_n CX.1 3 rfl dModel_copy_143 rfl ?_
    refine gw_imul CX.1 dModel_copy_144 ?_
    refine gw_iload CX.1 4 rfl dModel_copy_145 ?_
    refine gw_iadd CX.1 dModel_copy_147 ?_
    refine gw_iload CX.1 6 rfl dModel_copy_148 ?_
    refine gw_iadd CX.1 dModel_copy_150 ?_
    refine gw_aload_n CX.1 0 rfl dModel_copy_151 rfl ?_
    refine gg_Model_71 CX.1 rfl dModel_copy_152 ?_
    refine gw_iload CX.1 6 rfl dModel_copy_155 ?_
    obtain ⟨hin, H⟩ := H
    refine ga_59 CX.1 hin dModel_copy_157 ?_
    obtain ⟨hin, H⟩ := H
    refine gs_54 CX.1 hin dModel_copy_158 ?_
    refine gw_iinc (v := (x6 + 1)) CX.1 6 rfl dModel_copy_159 rfl (by decide) rfl ?_
    refine gw_goto (tgt := 130) CX.1 dModel_copy_162 (by decide) ?_
    exact gw_sub [1, 2, 3, 4, 5, 6, 0] rfl (H X CX)
theorem bModel_copy_93 {D : va_G} {d : Nat} {Q : Int32 → (Nat → Nat → Int32) → (Nat → Int64) → Prop} {F : Nat → Nat → Int32} {G : Nat → Int64} {x1 : Int32} {x2 : Int32} {x3 : Int32} {x4 : Int32} {x5 : Int32} {x6 : Int32} (H : ((x5 ≤ x6 → AWi D (d + 1) nModel_copy 130 [(0, .ref 39), (1, .int x1), (2, .int x2), (3, .int x3), (4, .int x4), (5, .int x5), (6, .int 0)] [] F G Q) ∧ (¬ (x5 ≤ x6) → vp_in (((30 * x1) + x2) + x6) 60 ∧ vp_in x6 30 ∧ AWi D (d + 1) nModel_copy 93 [(0, .ref 39), (1, .int x1), (2, .int x2), (3, .int x3), (4, .int x4), (5, .int x5), (6, .int (x6 + 1))] [] (up F 59 (x6.toNatClampNeg) (F 54 (((30 * x1) + x2) + x6).toNatClampNeg)) G Q))) : AWi D (d + 1) nModel_copy 93 [(0, .ref 39), (1, .int x1), (2, .int x2), (3, .int x3), (4, .int x4), (5, .int x5), (6, .int x6)] [] F G Q := by
  intro X CX
  refine gw_iload CX.1 6 rfl dModel_copy_93 ?_
  refine gw_iload CX.1 5 rfl dModel_copy_95 ?_
  refine gw_icmp_ge (tgt := 127) CX.1 dModel_copy_97 (by decide) (fun c => ?_) (fun c => ?_)
  · replace H := H.1 c
    refine gw_iconst (v := 0) CX.1 dModel_copy_127 (by decide) ?_
    refine gw_istore CX.1 dModel_copy_128 (by decide) rfl ?_
    exact gw_sub [1, 2, 3, 4, 5, 6, 0] rfl (H X CX)
  · replace H := H.2 c
    refine gw_aload_n CX.1 0 rfl dModel_copy_100 rfl ?_
    refine gg_Model_71 CX.1 rfl dModel_copy_101 ?_
    refine gw_iload CX.1 6 rfl dModel_copy_104 ?_
    refine gw_aload_n CX.1 0 rfl dModel_copy_106 rfl ?_
    refine gg_Model_55 CX.1 rfl dModel_copy_107 ?_
    refine gw_bipush (v := 30) CX.1 dModel_copy_110 (by decide) ?_
    refine gw_iload_n CX.1 1 rfl dModel_copy_112 rfl ?_
    refine gw_imul CX.1 dModel_copy_113 ?_
    refine gw_iload_n CX.1 2 rfl dModel_copy_114 rfl ?_
    refine gw_iadd CX.1 dModel_copy_115 ?_
    refine gw_iload CX.1 6 rfl dModel_copy_116 ?_
    refine gw_iadd CX.1 dModel_copy_118 ?_
    obtain ⟨hin, H⟩ := H
    refine ga_54 CX.1 hin dModel_copy_119 ?_
    obtain ⟨hin, H⟩ := H
    refine gs_59 CX.1 hin dModel_copy_120 ?_
    refine gw_iinc (v := (x6 + 1)) CX.1 6 rfl dModel_copy_121 rfl (by decide) rfl ?_
    refine gw_goto (tgt := 93) CX.1 dModel_copy_124 (by decide) ?_
    exact gw_sub [1, 2, 3, 4, 5, 6, 0] rfl (H X CX)
theorem eModel_copy {D : va_G} {d : Nat} {Q : Int32 → (Nat → Nat → Int32) → (Nat → Int64) → Prop} {F : Nat → Nat → Int32} {G : Nat → Int64} {a0 : Int32} {a1 : Int32} {a2 : Int32} {a3 : Int32} {a4 : Int32} (H : AMi D d nModel_isSheet [.int a0] F G (fun x1_ F1 G1 => ((x1_ = 0 → Q (-1000000001) F1 G1) ∧ (¬ (x1_ = 0) → AMi D d nModel_isSheet [.int a2] F1 G1 (fun x2_ F2 G2 => ((¬ x2_ = 0 → vp_in a0 2 ∧ (((F2 53 a0.toNatClampNeg) < 0 → Q (-1000000011) F2 G2) ∧ (¬ ((F2 53 a0.toNatClampNeg) < 0) → vp_in a2 2 ∧ ((0 ≤ (F2 53 a2.toNatClampNeg) → ((a1 < 0 → Q (-1000000013) F2 G2) ∧ (¬ (a1 < 0) → ((a3 < 0 → Q (-1000000013) F2 G2) ∧ (¬ (a3 < 0) → ((a4 < 0 → Q (-1000000013) F2 G2) ∧ (¬ (a4 < 0) → vp_in a0 2 ∧ ((0 < (lg_cmp (a1.toInt64 + a4.toInt64) ((F2 53 a0.toNatClampNeg).toInt64)) → Q (-1000000013) F2 G2) ∧ (¬ (0 < (lg_cmp (a1.toInt64 + a4.toInt64) ((F2 53 a0.toNatClampNeg).toInt64))) → vp_in a2 2 ∧ (((lg_cmp (a3.toInt64 + a4.toInt64) ((F2 53 a2.toNatClampNeg).toInt64)) ≤ 0 → AWi D (d + 1) nModel_copy 93 [(0, .ref 39), (1, .int a0), (2, .int a1), (3, .int a2), (4, .int a3), (5, .int a4), (6, .int 0)] [] F2 G2 Q) ∧ (¬ ((lg_cmp (a3.toInt64 + a4.toInt64) ((F2 53 a2.toNatClampNeg).toInt64)) ≤ 0) → Q (-1000000013) F2 G2))))))))))) ∧ (¬ (0 ≤ (F2 53 a2.toNatClampNeg)) → Q (-1000000011) F2 G2))))) ∧ (x2_ = 0 → Q (-1000000001) F2 G2))))))) : AMi D (d + 1) nModel_copy [.ref 39, .int a0, .int a1, .int a2, .int a3, .int a4] F G Q := by
  refine AM_intro (by decide) (Nat.le_of_ble_eq_true rfl) ?_
  intro X CX
  refine gw_iload_n CX.1 1 rfl dModel_copy_0 rfl ?_
  refine cl_Model_isSheet CX (Nat.le_of_ble_eq_true rfl) wm_Model_104 dModel_copy_1 H (fun x1_ F1 G1 H => ?_)
  refine gw_if_eq (tgt := 14) CX.1 dModel_copy_4 (by decide) (fun c => ?_) (fun c => ?_)
  · replace H := H.1 c
    refine gw_ldc CX.1 wc_Model_85 dModel_copy_14 ?_
    exact gw_iret CX rfl rfl ⟨_, _, _, rfl, rfl, H⟩ (Nat.zero_le _) (Nat.zero_le _) dModel_copy_16
  · replace H := H.2 c
    refine gw_iload_n CX.1 3 rfl dModel_copy_7 rfl ?_
    refine cl_Model_isSheet CX (Nat.le_of_ble_eq_true rfl) wm_Model_104 dModel_copy_8 H (fun x2_ F2 G2 H => ?_)
    refine gw_if_ne (tgt := 17) CX.1 dModel_copy_11 (by decide) (fun c => ?_) (fun c => ?_)
    · replace H := H.1 c
      refine gw_aload_n CX.1 0 rfl dModel_copy_17 rfl ?_
      refine gg_Model_52 CX.1 rfl dModel_copy_18 ?_
      refine gw_iload_n CX.1 1 rfl dModel_copy_21 rfl ?_
      obtain ⟨hin, H⟩ := H
      refine ga_53 CX.1 hin dModel_copy_22 ?_
      refine gw_if_lt (tgt := 35) CX.1 dModel_copy_23 (by decide) (fun c => ?_) (fun c => ?_)
      · replace H := H.1 c
        refine gw_ldc CX.1 wc_Model_107 dModel_copy_35 ?_
        exact gw_iret CX rfl rfl ⟨_, _, _, rfl, rfl, H⟩ (Nat.zero_le _) (Nat.zero_le _) dModel_copy_37
      · replace H := H.2 c
        refine gw_aload_n CX.1 0 rfl dModel_copy_26 rfl ?_
        refine gg_Model_52 CX.1 rfl dModel_copy_27 ?_
        refine gw_iload_n CX.1 3 rfl dModel_copy_30 rfl ?_
        obtain ⟨hin, H⟩ := H
        refine ga_53 CX.1 hin dModel_copy_31 ?_
        refine gw_if_ge (tgt := 38) CX.1 dModel_copy_32 (by decide) (fun c => ?_) (fun c => ?_)
        · replace H := H.1 c
          refine gw_iload_n CX.1 2 rfl dModel_copy_38 rfl ?_
          refine gw_if_lt (tgt := 87) CX.1 dModel_copy_39 (by decide) (fun c => ?_) (fun c => ?_)
          · replace H := H.1 c
            refine gw_ldc CX.1 wc_Model_108 dModel_copy_87 ?_
            exact gw_iret CX rfl rfl ⟨_, _, _, rfl, rfl, H⟩ (Nat.zero_le _) (Nat.zero_le _) dModel_copy_89
          · replace H := H.2 c
            refine gw_iload CX.1 4 rfl dModel_copy_42 ?_
            refine gw_if_lt (tgt := 87) CX.1 dModel_copy_44 (by decide) (fun c => ?_) (fun c => ?_)
            · replace H := H.1 c
              refine gw_ldc CX.1 wc_Model_108 dModel_copy_87 ?_
              exact gw_iret CX rfl rfl ⟨_, _, _, rfl, rfl, H⟩ (Nat.zero_le _) (Nat.zero_le _) dModel_copy_89
            · replace H := H.2 c
              refine gw_iload CX.1 5 rfl dModel_copy_47 ?_
              refine gw_if_lt (tgt := 87) CX.1 dModel_copy_49 (by decide) (fun c => ?_) (fun c => ?_)
              · replace H := H.1 c
                refine gw_ldc CX.1 wc_Model_108 dModel_copy_87 ?_
                exact gw_iret CX rfl rfl ⟨_, _, _, rfl, rfl, H⟩ (Nat.zero_le _) (Nat.zero_le _) dModel_copy_89
              · replace H := H.2 c
                refine gw_iload_n CX.1 2 rfl dModel_copy_52 rfl ?_
                refine gw_i2l CX.1 dModel_copy_53 ?_
                refine gw_iload CX.1 5 rfl dModel_copy_54 ?_
                refine gw_i2l CX.1 dModel_copy_56 ?_
                refine gw_ladd CX.1 dModel_copy_57 ?_
                refine gw_aload_n CX.1 0 rfl dModel_copy_58 rfl ?_
                refine gg_Model_52 CX.1 rfl dModel_copy_59 ?_
                refine gw_iload_n CX.1 1 rfl dModel_copy_62 rfl ?_
                obtain ⟨hin, H⟩ := H
                refine ga_53 CX.1 hin dModel_copy_63 ?_
                refine gw_i2l CX.1 dModel_copy_64 ?_
                refine gw_lcmp CX.1 dModel_copy_65 ?_
                refine gw_if_gt (tgt := 87) CX.1 dModel_copy_66 (by decide) (fun c => ?_) (fun c => ?_)
                · replace H := H.1 c
                  refine gw_ldc CX.1 wc_Model_108 dModel_copy_87 ?_
                  exact gw_iret CX rfl rfl ⟨_, _, _, rfl, rfl, H⟩ (Nat.zero_le _) (Nat.zero_le _) dModel_copy_89
                · replace H := H.2 c
                  refine gw_iload CX.1 4 rfl dModel_copy_69 ?_
                  refine gw_i2l CX.1 dModel_copy_71 ?_
                  refine gw_iload CX.1 5 rfl dModel_copy_72 ?_
                  refine gw_i2l CX.1 dModel_copy_74 ?_
                  refine gw_ladd CX.1 dModel_copy_75 ?_
                  refine gw_aload_n CX.1 0 rfl dModel_copy_76 rfl ?_
                  refine gg_Model_52 CX.1 rfl dModel_copy_77 ?_
                  refine gw_iload_n CX.1 3 rfl dModel_copy_80 rfl ?_
                  obtain ⟨hin, H⟩ := H
                  refine ga_53 CX.1 hin dModel_copy_81 ?_
                  refine gw_i2l CX.1 dModel_copy_82 ?_
                  refine gw_lcmp CX.1 dModel_copy_83 ?_
                  refine gw_if_le (tgt := 90) CX.1 dModel_copy_84 (by decide) (fun c => ?_) (fun c => ?_)
                  · replace H := H.1 c
                    refine gw_iconst (v := 0) CX.1 dModel_copy_90 (by decide) ?_
                    refine gw_istore CX.1 dModel_copy_91 (by decide) rfl ?_
                    exact gw_sub [1, 2, 3, 4, 5, 6, 0] rfl (H X CX)
                  · replace H := H.2 c
                    refine gw_ldc CX.1 wc_Model_108 dModel_copy_87 ?_
                    exact gw_iret CX rfl rfl ⟨_, _, _, rfl, rfl, H⟩ (Nat.zero_le _) (Nat.zero_le _) dModel_copy_89
        · replace H := H.2 c
          refine gw_ldc CX.1 wc_Model_107 dModel_copy_35 ?_
          exact gw_iret CX rfl rfl ⟨_, _, _, rfl, rfl, H⟩ (Nat.zero_le _) (Nat.zero_le _) dModel_copy_37
    · replace H := H.2 c
      refine gw_ldc CX.1 wc_Model_85 dModel_copy_14 ?_
      exact gw_iret CX rfl rfl ⟨_, _, _, rfl, rfl, H⟩ (Nat.zero_le _) (Nat.zero_le _) dModel_copy_16
theorem bModel_count_135 {D : va_G} {d : Nat} {Q : Int32 → (Nat → Nat → Int32) → (Nat → Int64) → Prop} {F : Nat → Nat → Int32} {G : Nat → Int64} {x1 : Int32} {x2 : Int32} {x3 : Int32} (H : (((F 111 0) ≤ x3 → Q x2 F G) ∧ (¬ ((F 111 0) ≤ x3) → vp_in x3 10 ∧ (((F 46 x3.toNatClampNeg) < 0 → AWi D (d + 1) nModel_count 135 [(0, .ref 39), (1, .int x1), (2, .int (x2 + 0)), (3, .int (x3 + 1))] [] F G Q) ∧ (¬ ((F 46 x3.toNatClampNeg) < 0) → AWi D (d + 1) nModel_count 135 [(0, .ref 39), (1, .int x1), (2, .int (x2 + 1)), (3, .int (x3 + 1))] [] F G Q))))) : AWi D (d + 1) nModel_count 135 [(0, .ref 39), (1, .int x1), (2, .int x2), (3, .int x3)] [] F G Q := by
  intro X CX
  refine gw_iload_n CX.1 3 rfl dModel_count_135 rfl ?_
  refine gw_aload_n CX.1 0 rfl dModel_count_136 rfl ?_
  refine gg_Model_82 CX.1 rfl dModel_count_137 ?_
  refine gw_icmp_ge (tgt := 166) CX.1 dModel_count_140 (by decide) (fun c => ?_) (fun c => ?_)
  · replace H := H.1 c
    refine gw_iload_n CX.1 2 rfl dModel_count_166 rfl ?_
    exact gw_iret CX rfl rfl ⟨_, _, _, rfl, rfl, H⟩ (Nat.zero_le _) (Nat.zero_le _) dModel_count_167
  · replace H := H.2 c
    refine gw_iload_n CX.1 2 rfl dModel_count_143 rfl ?_
    refine gw_aload_n CX.1 0 rfl dModel_count_144 rfl ?_
    refine gg_Model_31 CX.1 rfl dModel_count_145 ?_
    refine gw_iload_n CX.1 3 rfl dModel_count_148 rfl ?_
    obtain ⟨hin, H⟩ := H
    refine ga_46 CX.1 hin dModel_count_149 ?_
    refine gw_if_lt (tgt := 157) CX.1 dModel_count_150 (by decide) (fun c => ?_) (fun c => ?_)
    · replace H := H.1 c
      refine gw_iconst (v := 0) CX.1 dModel_count_157 (by decide) ?_
      refine gw_iadd CX.1 dModel_count_158 ?_
      refine gw_istore_n CX.1 dModel_count_159 rfl (by decide) rfl ?_
      refine gw_iinc (v := (x3 + 1)) CX.1 3 rfl dModel_count_160 rfl (by decide) rfl ?_
      refine gw_goto (tgt := 135) CX.1 dModel_count_163 (by decide) ?_
      exact gw_sub [2, 3, 1, 0] rfl (H X CX)
    · replace H := H.2 c
      refine gw_iconst (v := 1) CX.1 dModel_count_153 (by decide) ?_
      refine gw_goto (tgt := 158) CX.1 dModel_count_154 (by decide) ?_
      refine gw_iadd CX.1 dModel_count_158 ?_
      refine gw_istore_n CX.1 dModel_count_159 rfl (by decide) rfl ?_
      refine gw_iinc (v := (x3 + 1)) CX.1 3 rfl dModel_count_160 rfl (by decide) rfl ?_
      refine gw_goto (tgt := 135) CX.1 dModel_count_163 (by decide) ?_
      exact gw_sub [2, 3, 1, 0] rfl (H X CX)
theorem bModel_count_170 {D : va_G} {d : Nat} {Q : Int32 → (Nat → Nat → Int32) → (Nat → Int64) → Prop} {F : Nat → Nat → Int32} {G : Nat → Int64} {x1 : Int32} {x2 : Int32} {x3 : Int32} (H : (((F 111 0) ≤ x3 → Q x2 F G) ∧ (¬ ((F 111 0) ≤ x3) → AWi D (d + 1) nModel_count 181 [(0, .ref 39), (1, .int x1), (2, .int x2), (3, .int x3), (4, .int 0)] [] F G Q))) : AWi D (d + 1) nModel_count 170 [(0, .ref 39), (1, .int x1), (2, .int x2), (3, .int x3)] [] F G Q := by
  intro X CX
  refine gw_iload_n CX.1 3 rfl dModel_count_170 rfl ?_
  refine gw_aload_n CX.1 0 rfl dModel_count_171 rfl ?_
  refine gg_Model_82 CX.1 rfl dModel_count_172 ?_
  refine gw_icmp_ge (tgt := 213) CX.1 dModel_count_175 (by decide) (fun c => ?_) (fun c => ?_)
  · replace H := H.1 c
    refine gw_iload_n CX.1 2 rfl dModel_count_213 rfl ?_
    exact gw_iret CX rfl rfl ⟨_, _, _, rfl, rfl, H⟩ (Nat.zero_le _) (Nat.zero_le _) dModel_count_214
  · replace H := H.2 c
    refine gw_iconst (v := 0) CX.1 dModel_count_178 (by decide) ?_
    refine gw_istore CX.1 dModel_count_179 (by decide) rfl ?_
    exact gw_sub [1, 2, 3, 4, 0] rfl (H X CX)
theorem bModel_count_181 {D : va_G} {d : Nat} {Q : Int32 → (Nat → Nat → Int32) → (Nat → Int64) → Prop} {F : Nat → Nat → Int32} {G : Nat → Int64} {x1 : Int32} {x2 : Int32} {x3 : Int32} {x4 : Int32} (H : ((x3 ≤ x4 → AWi D (d + 1) nModel_count 170 [(0, .ref 39), (1, .int x1), (2, .int x2), (3, .int (x3 + 1))] [] F G Q) ∧ (¬ (x3 ≤ x4) → vp_in x3 10 ∧ AWi D (d + 1) nModel_count 181 [(0, .ref 39), (1, .int x1), (2, .int (x2 + (((F 49 x3.toNatClampNeg) >>> (x4 &&& 31)) &&& 1))), (3, .int x3), (4, .int (x4 + 1))] [] F G Q))) : AWi D (d + 1) nModel_count 181 [(0, .ref 39), (1, .int x1), (2, .int x2), (3, .int x3), (4, .int x4)] [] F G Q := by
  intro X CX
  refine gw_iload CX.1 4 rfl dModel_count_181 ?_
  refine gw_iload_n CX.1 3 rfl dModel_count_183 rfl ?_
  refine gw_icmp_ge (tgt := 207) CX.1 dModel_count_184 (by decide) (fun c => ?_) (fun c => ?_)
  · replace H := H.1 c
    refine gw_iinc (v := (x3 + 1)) CX.1 3 rfl dModel_count_207 rfl (by decide) rfl ?_
    refine gw_goto (tgt := 170) CX.1 dModel_count_210 (by decide) ?_
    exact gw_sub [1, 2, 3, 0] rfl (H X CX)
  · replace H := H.2 c
    refine gw_iload_n CX.1 2 rfl dModel_count_187 rfl ?_
    refine gw_aload_n CX.1 0 rfl dModel_count_188 rfl ?_
    refine gg_Model_40 CX.1 rfl dModel_count_189 ?_
    refine gw_iload_n CX.1 3 rfl dModel_count_192 rfl ?_
    obtain ⟨hin, H⟩ := H
    refine ga_49 CX.1 hin dModel_count_193 ?_
    refine gw_iload CX.1 4 rfl dModel_count_194 ?_
    refine gw_ishr CX.1 dModel_count_196 ?_
    refine gw_iconst (v := 1) CX.1 dModel_count_197 (by decide) ?_
    refine gw_iand CX.1 dModel_count_198 ?_
    refine gw_iadd CX.1 dModel_count_199 ?_
    refine gw_istore_n CX.1 dModel_count_200 rfl (by decide) rfl ?_
    refine gw_iinc (v := (x4 + 1)) CX.1 4 rfl dModel_count_201 rfl (by decide) rfl ?_
    refine gw_goto (tgt := 181) CX.1 dModel_count_204 (by decide) ?_
    exact gw_sub [2, 3, 1, 4, 0] rfl (H X CX)
theorem bModel_count_217 {D : va_G} {d : Nat} {Q : Int32 → (Nat → Nat → Int32) → (Nat → Int64) → Prop} {F : Nat → Nat → Int32} {G : Nat → Int64} {x1 : Int32} {x2 : Int32} {x3 : Int32} (H : (((F 111 0) ≤ x3 → Q x2 F G) ∧ (¬ ((F 111 0) ≤ x3) → AWi D (d + 1) nModel_count 228 [(0, .ref 39), (1, .int x1), (2, .int x2), (3, .int x3), (4, .int 0)] [] F G Q))) : AWi D (d + 1) nModel_count 217 [(0, .ref 39), (1, .int x1), (2, .int x2), (3, .int x3)] [] F G Q := by
  intro X CX
  refine gw_iload_n CX.1 3 rfl dModel_count_217 rfl ?_
  refine gw_aload_n CX.1 0 rfl dModel_count_218 rfl ?_
  refine gg_Model_82 CX.1 rfl dModel_count_219 ?_
  refine gw_icmp_ge (tgt := 273) CX.1 dModel_count_222 (by decide) (fun c => ?_) (fun c => ?_)
  · replace H := H.1 c
    refine gw_iload_n CX.1 2 rfl dModel_count_273 rfl ?_
    exact gw_iret CX rfl rfl ⟨_, _, _, rfl, rfl, H⟩ (Nat.zero_le _) (Nat.zero_le _) dModel_count_274
  · replace H := H.2 c
    refine gw_iconst (v := 0) CX.1 dModel_count_225 (by decide) ?_
    refine gw_istore CX.1 dModel_count_226 (by decide) rfl ?_
    exact gw_sub [1, 2, 3, 4, 0] rfl (H X CX)
theorem bModel_count_228 {D : va_G} {d : Nat} {Q : Int32 → (Nat → Nat → Int32) → (Nat → Int64) → Prop} {F : Nat → Nat → Int32} {G : Nat → Int64} {x1 : Int32} {x2 : Int32} {x3 : Int32} {x4 : Int32} (H : (((F 111 0) ≤ x4 → AWi D (d + 1) nModel_count 217 [(0, .ref 39), (1, .int x1), (2, .int x2), (3, .int (x3 + 1))] [] F G Q) ∧ (¬ ((F 111 0) ≤ x4) → ((x3 = x4 → AWi D (d + 1) nModel_count 228 [(0, .ref 39), (1, .int x1), (2, .int (x2 + 0)), (3, .int x3), (4, .int (x4 + 1))] [] F G Q) ∧ (¬ (x3 = x4) → AMi D d nModel_isRehearsed [.ref 39, .int x3, .int x4] F G (fun x1_ F1 G1 => ((x1_ = 0 → AWi D (d + 1) nModel_count 228 [(0, .ref 39), (1, .int x1), (2, .int (x2 + 0)), (3, .int x3), (4, .int (x4 + 1))] [] F1 G1 Q) ∧ (¬ (x1_ = 0) → AWi D (d + 1) nModel_count 228 [(0, .ref 39), (1, .int x1), (2, .int (x2 + 1)), (3, .int x3), (4, .int (x4 + 1))] [] F1 G1 Q)))))))) : AWi D (d + 1) nModel_count 228 [(0, .ref 39), (1, .int x1), (2, .int x2), (3, .int x3), (4, .int x4)] [] F G Q := by
  intro X CX
  refine gw_iload CX.1 4 rfl dModel_count_228 ?_
  refine gw_aload_n CX.1 0 rfl dModel_count_230 rfl ?_
  refine gg_Model_82 CX.1 rfl dModel_count_231 ?_
  refine gw_icmp_ge (tgt := 267) CX.1 dModel_count_234 (by decide) (fun c => ?_) (fun c => ?_)
  · replace H := H.1 c
    refine gw_iinc (v := (x3 + 1)) CX.1 3 rfl dModel_count_267 rfl (by decide) rfl ?_
    refine gw_goto (tgt := 217) CX.1 dModel_count_270 (by decide) ?_
    exact gw_sub [1, 2, 3, 0] rfl (H X CX)
  · replace H := H.2 c
    refine gw_iload_n CX.1 2 rfl dModel_count_237 rfl ?_
    refine gw_iload_n CX.1 3 rfl dModel_count_238 rfl ?_
    refine gw_iload CX.1 4 rfl dModel_count_239 ?_
    refine gw_icmp_eq (tgt := 258) CX.1 dModel_count_241 (by decide) (fun c => ?_) (fun c => ?_)
    · replace H := H.1 c
      refine gw_iconst (v := 0) CX.1 dModel_count_258 (by decide) ?_
      refine gw_iadd CX.1 dModel_count_259 ?_
      refine gw_istore_n CX.1 dModel_count_260 rfl (by decide) rfl ?_
      refine gw_iinc (v := (x4 + 1)) CX.1 4 rfl dModel_count_261 rfl (by decide) rfl ?_
      refine gw_goto (tgt := 228) CX.1 dModel_count_264 (by decide) ?_
      exact gw_sub [2, 3, 1, 4, 0] rfl (H X CX)
    · replace H := H.2 c
      refine gw_aload_n CX.1 0 rfl dModel_count_244 rfl ?_
      refine gw_iload_n CX.1 3 rfl dModel_count_245 rfl ?_
      refine gw_iload CX.1 4 rfl dModel_count_246 ?_
      refine cl_Model_isRehearsed CX (Nat.le_of_ble_eq_true rfl) wm_Model_151 dModel_count_248 H (fun x1_ F1 G1 H => ?_)
      refine gw_if_eq (tgt := 258) CX.1 dModel_count_251 (by decide) (fun c => ?_) (fun c => ?_)
      · replace H := H.1 c
        refine gw_iconst (v := 0) CX.1 dModel_count_258 (by decide) ?_
        refine gw_iadd CX.1 dModel_count_259 ?_
        refine gw_istore_n CX.1 dModel_count_260 rfl (by decide) rfl ?_
        refine gw_iinc (v := (x4 + 1)) CX.1 4 rfl dModel_count_261 rfl (by decide) rfl ?_
        refine gw_goto (tgt := 228) CX.1 dModel_count_264 (by decide) ?_
        exact gw_sub [2, 3, 1, 4, 0] rfl (H X CX)
      · replace H := H.2 c
        refine gw_iconst (v := 1) CX.1 dModel_count_254 (by decide) ?_
        refine gw_goto (tgt := 259) CX.1 dModel_count_255 (by decide) ?_
        refine gw_iadd CX.1 dModel_count_259 ?_
        refine gw_istore_n CX.1 dModel_count_260 rfl (by decide) rfl ?_
        refine gw_iinc (v := (x4 + 1)) CX.1 4 rfl dModel_count_261 rfl (by decide) rfl ?_
        refine gw_goto (tgt := 228) CX.1 dModel_count_264 (by decide) ?_
        exact gw_sub [2, 3, 1, 4, 0] rfl (H X CX)
theorem bModel_count_60 {D : va_G} {d : Nat} {Q : Int32 → (Nat → Nat → Int32) → (Nat → Int64) → Prop} {F : Nat → Nat → Int32} {G : Nat → Int64} {x1 : Int32} {x2 : Int32} {x3 : Int32} (H : ((30 ≤ x3 → Q x2 F G) ∧ (¬ (30 ≤ x3) → vp_in x3 30 ∧ (((F 42 x3.toNatClampNeg) < 0 → AWi D (d + 1) nModel_count 60 [(0, .ref 39), (1, .int x1), (2, .int (x2 + 0)), (3, .int (x3 + 1))] [] F G Q) ∧ (¬ ((F 42 x3.toNatClampNeg) < 0) → AWi D (d + 1) nModel_count 60 [(0, .ref 39), (1, .int x1), (2, .int (x2 + 1)), (3, .int (x3 + 1))] [] F G Q))))) : AWi D (d + 1) nModel_count 60 [(0, .ref 39), (1, .int x1), (2, .int x2), (3, .int x3)] [] F G Q := by
  intro X CX
  refine gw_iload_n CX.1 3 rfl dModel_count_60 rfl ?_
  refine gw_bipush (v := 30) CX.1 dModel_count_61 (by decide) ?_
  refine gw_icmp_ge (tgt := 89) CX.1 dModel_count_63 (by decide) (fun c => ?_) (fun c => ?_)
  · replace H := H.1 c
    refine gw_iload_n CX.1 2 rfl dModel_count_89 rfl ?_
    exact gw_iret CX rfl rfl ⟨_, _, _, rfl, rfl, H⟩ (Nat.zero_le _) (Nat.zero_le _) dModel_count_90
  · replace H := H.2 c
    refine gw_iload_n CX.1 2 rfl dModel_count_66 rfl ?_
    refine gw_aload_n CX.1 0 rfl dModel_count_67 rfl ?_
    refine gg_Model_19 CX.1 rfl dModel_count_68 ?_
    refine gw_iload_n CX.1 3 rfl dModel_count_71 rfl ?_
    obtain ⟨hin, H⟩ := H
    refine ga_42 CX.1 hin dModel_count_72 ?_
    refine gw_if_lt (tgt := 80) CX.1 dModel_count_73 (by decide) (fun c => ?_) (fun c => ?_)
    · replace H := H.1 c
      refine gw_iconst (v := 0) CX.1 dModel_count_80 (by decide) ?_
      refine gw_iadd CX.1 dModel_count_81 ?_
      refine gw_istore_n CX.1 dModel_count_82 rfl (by decide) rfl ?_
      refine gw_iinc (v := (x3 + 1)) CX.1 3 rfl dModel_count_83 rfl (by decide) rfl ?_
      refine gw_goto (tgt := 60) CX.1 dModel_count_86 (by decide) ?_
      exact gw_sub [2, 3, 1, 0] rfl (H X CX)
    · replace H := H.2 c
      refine gw_iconst (v := 1) CX.1 dModel_count_76 (by decide) ?_
      refine gw_goto (tgt := 81) CX.1 dModel_count_77 (by decide) ?_
      refine gw_iadd CX.1 dModel_count_81 ?_
      refine gw_istore_n CX.1 dModel_count_82 rfl (by decide) rfl ?_
      refine gw_iinc (v := (x3 + 1)) CX.1 3 rfl dModel_count_83 rfl (by decide) rfl ?_
      refine gw_goto (tgt := 60) CX.1 dModel_count_86 (by decide) ?_
      exact gw_sub [2, 3, 1, 0] rfl (H X CX)
theorem bModel_count_98 {D : va_G} {d : Nat} {Q : Int32 → (Nat → Nat → Int32) → (Nat → Int64) → Prop} {F : Nat → Nat → Int32} {G : Nat → Int64} {x1 : Int32} {x2 : Int32} {x3 : Int32} (H : (((F 111 0) ≤ x3 → Q x2 F G) ∧ (¬ ((F 111 0) ≤ x3) → vp_in x3 10 ∧ ((30 ≤ (F 50 x3.toNatClampNeg) → AWi D (d + 1) nModel_count 98 [(0, .ref 39), (1, .int x1), (2, .int (x2 + 0)), (3, .int (x3 + 1))] [] F G Q) ∧ (¬ (30 ≤ (F 50 x3.toNatClampNeg)) → AWi D (d + 1) nModel_count 98 [(0, .ref 39), (1, .int x1), (2, .int (x2 + 1)), (3, .int (x3 + 1))] [] F G Q))))) : AWi D (d + 1) nModel_count 98 [(0, .ref 39), (1, .int x1), (2, .int x2), (3, .int x3)] [] F G Q := by
  intro X CX
  refine gw_iload_n CX.1 3 rfl dModel_count_98 rfl ?_
  refine gw_aload_n CX.1 0 rfl dModel_count_99 rfl ?_
  refine gg_Model_82 CX.1 rfl dModel_count_100 ?_
  refine gw_icmp_ge (tgt := 131) CX.1 dModel_count_103 (by decide) (fun c => ?_) (fun c => ?_)
  · replace H := H.1 c
    refine gw_iload_n CX.1 2 rfl dModel_count_131 rfl ?_
    exact gw_iret CX rfl rfl ⟨_, _, _, rfl, rfl, H⟩ (Nat.zero_le _) (Nat.zero_le _) dModel_count_132
  · replace H := H.2 c
    refine gw_iload_n CX.1 2 rfl dModel_count_106 rfl ?_
    refine gw_aload_n CX.1 0 rfl dModel_count_107 rfl ?_
    refine gg_Model_43 CX.1 rfl dModel_count_108 ?_
    refine gw_iload_n CX.1 3 rfl dModel_count_111 rfl ?_
    obtain ⟨hin, H⟩ := H
    refine ga_50 CX.1 hin dModel_count_112 ?_
    refine gw_bipush (v := 30) CX.1 dModel_count_113 (by decide) ?_
    refine gw_icmp_ge (tgt := 122) CX.1 dModel_count_115 (by decide) (fun c => ?_) (fun c => ?_)
    · replace H := H.1 c
      refine gw_iconst (v := 0) CX.1 dModel_count_122 (by decide) ?_
      refine gw_iadd CX.1 dModel_count_123 ?_
      refine gw_istore_n CX.1 dModel_count_124 rfl (by decide) rfl ?_
      refine gw_iinc (v := (x3 + 1)) CX.1 3 rfl dModel_count_125 rfl (by decide) rfl ?_
      refine gw_goto (tgt := 98) CX.1 dModel_count_128 (by decide) ?_
      exact gw_sub [2, 3, 1, 0] rfl (H X CX)
    · replace H := H.2 c
      refine gw_iconst (v := 1) CX.1 dModel_count_118 (by decide) ?_
      refine gw_goto (tgt := 123) CX.1 dModel_count_119 (by decide) ?_
      refine gw_iadd CX.1 dModel_count_123 ?_
      refine gw_istore_n CX.1 dModel_count_124 rfl (by decide) rfl ?_
      refine gw_iinc (v := (x3 + 1)) CX.1 3 rfl dModel_count_125 rfl (by decide) rfl ?_
      refine gw_goto (tgt := 98) CX.1 dModel_count_128 (by decide) ?_
      exact gw_sub [2, 3, 1, 0] rfl (H X CX)
theorem eModel_count {D : va_G} {d : Nat} {Q : Int32 → (Nat → Nat → Int32) → (Nat → Int64) → Prop} {F : Nat → Nat → Int32} {G : Nat → Int64} {a0 : Int32} (H : ((a0 = 0 → Q (F 110 0) F G) ∧ (a0 = 1 → Q (F 111 0) F G) ∧ (a0 = 2 → AWi D (d + 1) nModel_count 60 [(0, .ref 39), (1, .int a0), (2, .int 0), (3, .int 0)] [] F G Q) ∧ (a0 = 3 → Q (F 112 0) F G) ∧ (a0 = 4 → AWi D (d + 1) nModel_count 98 [(0, .ref 39), (1, .int a0), (2, .int 0), (3, .int 0)] [] F G Q) ∧ (a0 = 5 → AWi D (d + 1) nModel_count 135 [(0, .ref 39), (1, .int a0), (2, .int 0), (3, .int 0)] [] F G Q) ∧ (a0 = 6 → AWi D (d + 1) nModel_count 170 [(0, .ref 39), (1, .int a0), (2, .int 0), (3, .int 0)] [] F G Q) ∧ (a0 = 7 → AWi D (d + 1) nModel_count 217 [(0, .ref 39), (1, .int a0), (2, .int 0), (3, .int 0)] [] F G Q) ∧ ((¬ a0 = 0 ∧ ¬ a0 = 1 ∧ ¬ a0 = 2 ∧ ¬ a0 = 3 ∧ ¬ a0 = 4 ∧ ¬ a0 = 5 ∧ ¬ a0 = 6 ∧ ¬ a0 = 7) → Q (-1000000001) F G))) : AMi D (d + 1) nModel_count [.ref 39, .int a0] F G Q := by
  refine AM_intro (by decide) (Nat.le_of_ble_eq_true rfl) ?_
  intro X CX
  refine gw_iconst (v := 0) CX.1 dModel_count_0 (by decide) ?_
  refine gw_istore_n CX.1 dModel_count_1 rfl (by decide) rfl ?_
  refine gw_iload_n CX.1 2 rfl dModel_count_2 rfl ?_
  by_cases e0 : a0 = 0
  · replace H := H.1 e0
    refine gw_tableIn (off := 45) (tgt := 48) CX.1 dModel_count_3 (by rw [e0]; decide) (by rw [e0]; decide) (by rw [e0]; decide) (by decide) ?_
    refine gw_aload_n CX.1 1 rfl dModel_count_48 rfl ?_
    refine gg_Model_74 CX.1 rfl dModel_count_49 ?_
    exact gw_iret CX rfl rfl ⟨_, _, _, rfl, rfl, H⟩ (Nat.zero_le _) (Nat.zero_le _) dModel_count_52
  by_cases e1 : a0 = 1
  · replace H := H.2.1 e1
    refine gw_tableIn (off := 50) (tgt := 53) CX.1 dModel_count_3 (by rw [e1]; decide) (by rw [e1]; decide) (by rw [e1]; decide) (by decide) ?_
    refine gw_aload_n CX.1 1 rfl dModel_count_53 rfl ?_
    refine gg_Model_82 CX.1 rfl dModel_count_54 ?_
    exact gw_iret CX rfl rfl ⟨_, _, _, rfl, rfl, H⟩ (Nat.zero_le _) (Nat.zero_le _) dModel_count_57
  by_cases e2 : a0 = 2
  · replace H := H.2.2.1 e2
    refine gw_tableIn (off := 55) (tgt := 58) CX.1 dModel_count_3 (by rw [e2]; decide) (by rw [e2]; decide) (by rw [e2]; decide) (by decide) ?_
    refine gw_iconst (v := 0) CX.1 dModel_count_58 (by decide) ?_
    refine gw_istore_n CX.1 dModel_count_59 rfl (by decide) rfl ?_
    exact gw_sub [2, 3, 1, 0] rfl (H X CX)
  by_cases e3 : a0 = 3
  · replace H := H.2.2.2.1 e3
    refine gw_tableIn (off := 88) (tgt := 91) CX.1 dModel_count_3 (by rw [e3]; decide) (by rw [e3]; decide) (by rw [e3]; decide) (by decide) ?_
    refine gw_aload_n CX.1 1 rfl dModel_count_91 rfl ?_
    refine gg_Model_119 CX.1 rfl dModel_count_92 ?_
    exact gw_iret CX rfl rfl ⟨_, _, _, rfl, rfl, H⟩ (Nat.zero_le _) (Nat.zero_le _) dModel_count_95
  by_cases e4 : a0 = 4
  · replace H := H.2.2.2.2.1 e4
    refine gw_tableIn (off := 93) (tgt := 96) CX.1 dModel_count_3 (by rw [e4]; decide) (by rw [e4]; decide) (by rw [e4]; decide) (by decide) ?_
    refine gw_iconst (v := 0) CX.1 dModel_count_96 (by decide) ?_
    refine gw_istore_n CX.1 dModel_count_97 rfl (by decide) rfl ?_
    exact gw_sub [2, 3, 1, 0] rfl (H X CX)
  by_cases e5 : a0 = 5
  · replace H := H.2.2.2.2.2.1 e5
    refine gw_tableIn (off := 130) (tgt := 133) CX.1 dModel_count_3 (by rw [e5]; decide) (by rw [e5]; decide) (by rw [e5]; decide) (by decide) ?_
    refine gw_iconst (v := 0) CX.1 dModel_count_133 (by decide) ?_
    refine gw_istore_n CX.1 dModel_count_134 rfl (by decide) rfl ?_
    exact gw_sub [2, 3, 1, 0] rfl (H X CX)
  by_cases e6 : a0 = 6
  · replace H := H.2.2.2.2.2.2.1 e6
    refine gw_tableIn (off := 165) (tgt := 168) CX.1 dModel_count_3 (by rw [e6]; decide) (by rw [e6]; decide) (by rw [e6]; decide) (by decide) ?_
    refine gw_iconst (v := 0) CX.1 dModel_count_168 (by decide) ?_
    refine gw_istore_n CX.1 dModel_count_169 rfl (by decide) rfl ?_
    exact gw_sub [2, 3, 1, 0] rfl (H X CX)
  by_cases e7 : a0 = 7
  · replace H := H.2.2.2.2.2.2.2.1 e7
    refine gw_tableIn (off := 212) (tgt := 215) CX.1 dModel_count_3 (by rw [e7]; decide) (by rw [e7]; decide) (by rw [e7]; decide) (by decide) ?_
    refine gw_iconst (v := 0) CX.1 dModel_count_215 (by decide) ?_
    refine gw_istore_n CX.1 dModel_count_216 rfl (by decide) rfl ?_
    exact gw_sub [2, 3, 1, 0] rfl (H X CX)
  replace H := H.2.2.2.2.2.2.2.2 ⟨e0, e1, e2, e3, e4, e5, e6, e7⟩
  have n0 := lv_neT (a := 0) e0 (by decide)
  have n1 := lv_neT (a := 1) e1 (by decide)
  have n2 := lv_neT (a := 2) e2 (by decide)
  have n3 := lv_neT (a := 3) e3 (by decide)
  have n4 := lv_neT (a := 4) e4 (by decide)
  have n5 := lv_neT (a := 5) e5 (by decide)
  have n6 := lv_neT (a := 6) e6 (by decide)
  have n7 := lv_neT (a := 7) e7 (by decide)
  refine gw_tableOut (tgt := 275) CX.1 dModel_count_3 (by omega) (by decide) ?_
  refine gw_ldc CX.1 wc_Model_85 dModel_count_275 ?_
  exact gw_iret CX rfl rfl ⟨_, _, _, rfl, rfl, H⟩ (Nat.zero_le _) (Nat.zero_le _) dModel_count_277
