theorem eDesk_track {D : va_G} {d : Nat} {Q : Int32 → (Nat → Nat → Int32) → (Nat → Int64) → Prop} {F : Nat → Nat → Int32} {G : Nat → Int64} {a0 : Int32} (H : AMi D d nDesk_isWithin [.int a0, .int 1, .int 9] F G (fun x1_ F1 G1 => ((x1_ = 0 → Q (-1000000001) F1 G1) ∧ (¬ (x1_ = 0) → AMi D d nShow_addTrack [.ref 2, .int a0] F1 G1 (fun x2_ F2 G2 => Q x2_ F2 G2))))) : AMi D (d + 1) nDesk_track [.ref 1, .int a0] F G Q := by
  refine AM_intro (by decide) (Nat.le_of_ble_eq_true rfl) ?_
  intro X CX
  refine gw_iload_n CX.1 1 rfl dDesk_track_0 rfl ?_
  refine gw_iconst (v := 1) CX.1 dDesk_track_1 (by decide) ?_
  refine gw_bipush (v := 9) CX.1 dDesk_track_2 (by decide) ?_
  refine cl_Desk_isWithin CX (Nat.le_of_ble_eq_true rfl) wm_Desk_53 dDesk_track_4 H (fun x1_ F1 G1 H => ?_)
  refine gw_if_eq (tgt := 21) CX.1 dDesk_track_7 (by decide) (fun c => ?_) (fun c => ?_)
  · replace H := H.1 c
    refine gw_ldc CX.1 wc_Desk_61 dDesk_track_21 ?_
    exact gw_iret CX rfl rfl ⟨_, _, _, rfl, rfl, H⟩ (Nat.zero_le _) (Nat.zero_le _) dDesk_track_23
  · replace H := H.2 c
    refine gw_aload_n CX.1 0 rfl dDesk_track_10 rfl ?_
    refine gg_Desk_10 CX.1 rfl dDesk_track_11 ?_
    refine gw_iload_n CX.1 1 rfl dDesk_track_14 rfl ?_
    refine cl_Show_addTrack CX (Nat.le_of_ble_eq_true rfl) wm_Desk_57 dDesk_track_15 H (fun x2_ F2 G2 H => ?_)
    refine gw_goto (tgt := 23) CX.1 dDesk_track_18 (by decide) ?_
    exact gw_iret CX rfl rfl ⟨_, _, _, rfl, rfl, H⟩ (Nat.zero_le _) (Nat.zero_le _) dDesk_track_23
theorem bDesk_in_16 {D : va_G} {d : Nat} {Q : Int32 → (Nat → Nat → Int32) → (Nat → Int64) → Prop} {F : Nat → Nat → Int32} {G : Nat → Int64} {x1 : Int32} {x2 : Int32} {x3 : Int32} {x4 : Int32} (H : AWi D (d + 1) nDesk_in 21 [(0, .ref 1), (1, .int x1), (2, .int x2), (3, .int x3), (4, .int x4)] [.int 1] F G Q) : AWi D (d + 1) nDesk_in 16 [(0, .ref 1), (1, .int x1), (2, .int x2), (3, .int x3), (4, .int x4)] [] F G Q := by
  intro X CX
  refine gw_iconst (v := 1) CX.1 dDesk_in_16 (by decide) ?_
  refine gw_goto (tgt := 21) CX.1 dDesk_in_17 (by decide) ?_
  exact H X CX
theorem bDesk_in_21 {D : va_G} {d : Nat} {Q : Int32 → (Nat → Nat → Int32) → (Nat → Int64) → Prop} {F : Nat → Nat → Int32} {G : Nat → Int64} {x1 : Int32} {x2 : Int32} {x3 : Int32} {x4 : Int32} {s0 : Int32} (H : AMi D d nShow_isTrack [.ref 2, .int x1] F G (fun x1_ F1 G1 => ((x1_ = 0 → Q (-1000000001) F1 G1) ∧ (¬ (x1_ = 0) → AMi D d nDesk_isCue [.int x2] F1 G1 (fun x2_ F2 G2 => ((x2_ = 0 → Q (-1000000001) F2 G2) ∧ (¬ (x2_ = 0) → ((s0 = 0 → Q (-1000000001) F2 G2) ∧ (¬ (s0 = 0) → AMi D d nDesk_isFlag [.int x4] F2 G2 (fun x3_ F3 G3 => ((¬ x3_ = 0 → AMi D d nShow_placeAt [.ref 2, .int x1, .int x2] F3 G3 (fun x4_ F4 G4 => AMv D d nShow_put [.ref 2, .int x1, .int x2, .int x3, .int x4] F4 G4 (fun F5 G5 => Q x4_ F5 G5))) ∧ (x3_ = 0 → Q (-1000000001) F3 G3)))))))))))) : AWi D (d + 1) nDesk_in 21 [(0, .ref 1), (1, .int x1), (2, .int x2), (3, .int x3), (4, .int x4)] [.int s0] F G Q := by
  intro X CX
  refine gw_istore CX.1 dDesk_in_21 (by decide) rfl ?_
  refine gw_aload_n CX.1 1 rfl dDesk_in_23 rfl ?_
  refine gg_Desk_10 CX.1 rfl dDesk_in_24 ?_
  refine gw_iload_n CX.1 2 rfl dDesk_in_27 rfl ?_
  refine cl_Show_isTrack CX (Nat.le_of_ble_eq_true rfl) wm_Desk_63 dDesk_in_28 H (fun x1_ F1 G1 H => ?_)
  refine gw_if_eq (tgt := 54) CX.1 dDesk_in_31 (by decide) (fun c => ?_) (fun c => ?_)
  · replace H := H.1 c
    refine gw_ldc CX.1 wc_Desk_61 dDesk_in_54 ?_
    exact gw_iret CX rfl rfl ⟨_, _, _, rfl, rfl, H⟩ (Nat.zero_le _) (Nat.zero_le _) dDesk_in_56
  · replace H := H.2 c
    refine gw_iload_n CX.1 3 rfl dDesk_in_34 rfl ?_
    refine cl_Desk_isCue CX (Nat.le_of_ble_eq_true rfl) wm_Desk_67 dDesk_in_35 H (fun x2_ F2 G2 H => ?_)
    refine gw_if_eq (tgt := 54) CX.1 dDesk_in_38 (by decide) (fun c => ?_) (fun c => ?_)
    · replace H := H.1 c
      refine gw_ldc CX.1 wc_Desk_61 dDesk_in_54 ?_
      exact gw_iret CX rfl rfl ⟨_, _, _, rfl, rfl, H⟩ (Nat.zero_le _) (Nat.zero_le _) dDesk_in_56
    · replace H := H.2 c
      refine gw_iload CX.1 0 rfl dDesk_in_41 ?_
      refine gw_if_eq (tgt := 54) CX.1 dDesk_in_43 (by decide) (fun c => ?_) (fun c => ?_)
      · replace H := H.1 c
        refine gw_ldc CX.1 wc_Desk_61 dDesk_in_54 ?_
        exact gw_iret CX rfl rfl ⟨_, _, _, rfl, rfl, H⟩ (Nat.zero_le _) (Nat.zero_le _) dDesk_in_56
      · replace H := H.2 c
        refine gw_iload CX.1 5 rfl dDesk_in_46 ?_
        refine cl_Desk_isFlag CX (Nat.le_of_ble_eq_true rfl) wm_Desk_70 dDesk_in_48 H (fun x3_ F3 G3 H => ?_)
        refine gw_if_ne (tgt := 57) CX.1 dDesk_in_51 (by decide) (fun c => ?_) (fun c => ?_)
        · replace H := H.1 c
          refine gw_aload_n CX.1 1 rfl dDesk_in_57 rfl ?_
          refine gg_Desk_10 CX.1 rfl dDesk_in_58 ?_
          refine gw_iload_n CX.1 2 rfl dDesk_in_61 rfl ?_
          refine gw_iload_n CX.1 3 rfl dDesk_in_62 rfl ?_
          refine cl_Show_placeAt CX (Nat.le_of_ble_eq_true rfl) wm_Desk_73 dDesk_in_63 H (fun x4_ F4 G4 H => ?_)
          refine gw_istore CX.1 dDesk_in_66 (by decide) rfl ?_
          refine gw_aload_n CX.1 2 rfl dDesk_in_68 rfl ?_
          refine gg_Desk_10 CX.1 rfl dDesk_in_69 ?_
          refine gw_iload_n CX.1 3 rfl dDesk_in_72 rfl ?_
          refine gw_iload_n CX.1 4 rfl dDesk_in_73 rfl ?_
          refine gw_iload_n CX.1 5 rfl dDesk_in_74 rfl ?_
          refine gw_iload CX.1 6 rfl dDesk_in_75 ?_
          refine cl_Show_put CX (Nat.le_of_ble_eq_true rfl) wm_Desk_77 dDesk_in_77 H (fun F5 G5 H => ?_)
          refine gw_iload CX.1 0 rfl dDesk_in_80 ?_
          exact gw_iret CX rfl rfl ⟨_, _, _, rfl, rfl, H⟩ (Nat.zero_le _) (Nat.zero_le _) dDesk_in_82
        · replace H := H.2 c
          refine gw_ldc CX.1 wc_Desk_61 dDesk_in_54 ?_
          exact gw_iret CX rfl rfl ⟨_, _, _, rfl, rfl, H⟩ (Nat.zero_le _) (Nat.zero_le _) dDesk_in_56
theorem eDesk_in {D : va_G} {d : Nat} {Q : Int32 → (Nat → Nat → Int32) → (Nat → Int64) → Prop} {F : Nat → Nat → Int32} {G : Nat → Int64} {a0 : Int32} {a1 : Int32} {a2 : Int32} {a3 : Int32} (H : ((a2 = (-1000000005) → AWi D (d + 1) nDesk_in 16 [(0, .ref 1), (1, .int a0), (2, .int a1), (3, .int a2), (4, .int a3)] [] F G Q) ∧ (¬ (a2 = (-1000000005)) → AMi D d nDesk_isWithin [.int a2, .int 0, .int 9] F G (fun x1_ F1 G1 => ((x1_ = 0 → AWi D (d + 1) nDesk_in 21 [(0, .ref 1), (1, .int a0), (2, .int a1), (3, .int a2), (4, .int a3)] [.int 0] F1 G1 Q) ∧ (¬ (x1_ = 0) → AWi D (d + 1) nDesk_in 16 [(0, .ref 1), (1, .int a0), (2, .int a1), (3, .int a2), (4, .int a3)] [] F1 G1 Q)))))) : AMi D (d + 1) nDesk_in [.ref 1, .int a0, .int a1, .int a2, .int a3] F G Q := by
  refine AM_intro (by decide) (Nat.le_of_ble_eq_true rfl) ?_
  intro X CX
  refine gw_iload_n CX.1 3 rfl dDesk_in_0 rfl ?_
  refine gw_ldc CX.1 wc_Desk_62 dDesk_in_1 ?_
  refine gw_icmp_eq (tgt := 16) CX.1 dDesk_in_3 (by decide) (fun c => ?_) (fun c => ?_)
  · replace H := H.1 c
    exact H X CX
  · replace H := H.2 c
    refine gw_iload_n CX.1 3 rfl dDesk_in_6 rfl ?_
    refine gw_iconst (v := 0) CX.1 dDesk_in_7 (by decide) ?_
    refine gw_bipush (v := 9) CX.1 dDesk_in_8 (by decide) ?_
    refine cl_Desk_isWithin CX (Nat.le_of_ble_eq_true rfl) wm_Desk_53 dDesk_in_10 H (fun x1_ F1 G1 H => ?_)
    refine gw_if_eq (tgt := 20) CX.1 dDesk_in_13 (by decide) (fun c => ?_) (fun c => ?_)
    · replace H := H.1 c
      refine gw_iconst (v := 0) CX.1 dDesk_in_20 (by decide) ?_
      exact H X CX
    · replace H := H.2 c
      exact H X CX
theorem bDesk_lift_26 {D : va_G} {d : Nat} {Q : Int32 → (Nat → Nat → Int32) → (Nat → Int64) → Prop} {F : Nat → Nat → Int32} {G : Nat → Int64} {x1 : Int32} {x2 : Int32} {x3 : Int32} {s0 : Int32} (H : ((¬ x2 = (-1000000005) → AMi D d nShow_isTrack [.ref 2, .int x2] F G (fun x1_ F1 G1 => ((x1_ = 0 → Q (-1000000001) F1 G1) ∧ (¬ (x1_ = 0) → AMi D d nShow_isTrack [.ref 2, .int x3] F1 G1 (fun x2_ F2 G2 => ((x2_ = 0 → Q (-1000000001) F2 G2) ∧ (¬ (x2_ = 0) → ((¬ x2 = x3 → AMi D d nShow_isIn [.ref 2, .int x2, .int x1] F2 G2 (fun x3_ F3 G3 => ((x3_ = 0 → Q (-1000000002) F3 G3) ∧ (¬ (x3_ = 0) → AMi D d nShow_isIn [.ref 2, .int x3, .int x1] F3 G3 (fun x4_ F4 G4 => ((¬ x4_ = 0 → AMv D d nShow_setLift [.ref 2, .int x1, .int x2, .int x3] F4 G4 (fun F5 G5 => Q s0 F5 G5)) ∧ (x4_ = 0 → Q (-1000000002) F4 G4))))))) ∧ (x2 = x3 → Q (-1000000001) F2 G2))))))))) ∧ (x2 = (-1000000005) → AMv D d nShow_setLift [.ref 2, .int x1, .int (-1000000005), .int (-1000000005)] F G (fun F6 G6 => Q s0 F6 G6)))) : AWi D (d + 1) nDesk_lift 26 [(0, .ref 1), (1, .int x1), (2, .int x2), (3, .int x3)] [.int s0] F G Q := by
  intro X CX
  refine gw_istore CX.1 dDesk_lift_26 (by decide) rfl ?_
  refine gw_iload_n CX.1 3 rfl dDesk_lift_28 rfl ?_
  refine gw_ldc CX.1 wc_Desk_62 dDesk_lift_29 ?_
  refine gw_icmp_ne (tgt := 49) CX.1 dDesk_lift_31 (by decide) (fun c => ?_) (fun c => ?_)
  · replace H := H.1 c
    refine gw_aload_n CX.1 1 rfl dDesk_lift_49 rfl ?_
    refine gg_Desk_10 CX.1 rfl dDesk_lift_50 ?_
    refine gw_iload_n CX.1 3 rfl dDesk_lift_53 rfl ?_
    refine cl_Show_isTrack CX (Nat.le_of_ble_eq_true rfl) wm_Desk_63 dDesk_lift_54 H (fun x1_ F1 G1 H => ?_)
    refine gw_if_eq (tgt := 76) CX.1 dDesk_lift_57 (by decide) (fun c => ?_) (fun c => ?_)
    · replace H := H.1 c
      refine gw_ldc CX.1 wc_Desk_61 dDesk_lift_76 ?_
      exact gw_iret CX rfl rfl ⟨_, _, _, rfl, rfl, H⟩ (Nat.zero_le _) (Nat.zero_le _) dDesk_lift_78
    · replace H := H.2 c
      refine gw_aload_n CX.1 1 rfl dDesk_lift_60 rfl ?_
      refine gg_Desk_10 CX.1 rfl dDesk_lift_61 ?_
      refine gw_iload_n CX.1 4 rfl dDesk_lift_64 rfl ?_
      refine cl_Show_isTrack CX (Nat.le_of_ble_eq_true rfl) wm_Desk_63 dDesk_lift_65 H (fun x2_ F2 G2 H => ?_)
      refine gw_if_eq (tgt := 76) CX.1 dDesk_lift_68 (by decide) (fun c => ?_) (fun c => ?_)
      · replace H := H.1 c
        refine gw_ldc CX.1 wc_Desk_61 dDesk_lift_76 ?_
        exact gw_iret CX rfl rfl ⟨_, _, _, rfl, rfl, H⟩ (Nat.zero_le _) (Nat.zero_le _) dDesk_lift_78
      · replace H := H.2 c
        refine gw_iload_n CX.1 3 rfl dDesk_lift_71 rfl ?_
        refine gw_iload_n CX.1 4 rfl dDesk_lift_72 rfl ?_
        refine gw_icmp_ne (tgt := 79) CX.1 dDesk_lift_73 (by decide) (fun c => ?_) (fun c => ?_)
        · replace H := H.1 c
          refine gw_aload_n CX.1 1 rfl dDesk_lift_79 rfl ?_
          refine gg_Desk_10 CX.1 rfl dDesk_lift_80 ?_
          refine gw_iload_n CX.1 3 rfl dDesk_lift_83 rfl ?_
          refine gw_iload_n CX.1 2 rfl dDesk_lift_84 rfl ?_
          refine cl_Show_isIn CX (Nat.le_of_ble_eq_true rfl) wm_Desk_88 dDesk_lift_85 H (fun x3_ F3 G3 H => ?_)
          refine gw_if_eq (tgt := 103) CX.1 dDesk_lift_88 (by decide) (fun c => ?_) (fun c => ?_)
          · replace H := H.1 c
            refine gw_ldc CX.1 wc_Desk_92 dDesk_lift_103 ?_
            exact gw_iret CX rfl rfl ⟨_, _, _, rfl, rfl, H⟩ (Nat.zero_le _) (Nat.zero_le _) dDesk_lift_105
          · replace H := H.2 c
            refine gw_aload_n CX.1 1 rfl dDesk_lift_91 rfl ?_
            refine gg_Desk_10 CX.1 rfl dDesk_lift_92 ?_
            refine gw_iload_n CX.1 4 rfl dDesk_lift_95 rfl ?_
            refine gw_iload_n CX.1 2 rfl dDesk_lift_96 rfl ?_
            refine cl_Show_isIn CX (Nat.le_of_ble_eq_true rfl) wm_Desk_88 dDesk_lift_97 H (fun x4_ F4 G4 H => ?_)
            refine gw_if_ne (tgt := 106) CX.1 dDesk_lift_100 (by decide) (fun c => ?_) (fun c => ?_)
            · replace H := H.1 c
              refine gw_aload_n CX.1 1 rfl dDesk_lift_106 rfl ?_
              refine gg_Desk_10 CX.1 rfl dDesk_lift_107 ?_
              refine gw_iload_n CX.1 2 rfl dDesk_lift_110 rfl ?_
              refine gw_iload_n CX.1 3 rfl dDesk_lift_111 rfl ?_
              refine gw_iload_n CX.1 4 rfl dDesk_lift_112 rfl ?_
              refine cl_Show_setLift CX (Nat.le_of_ble_eq_true rfl) wm_Desk_84 dDesk_lift_113 H (fun F5 G5 H => ?_)
              refine gw_iload CX.1 0 rfl dDesk_lift_116 ?_
              exact gw_iret CX rfl rfl ⟨_, _, _, rfl, rfl, H⟩ (Nat.zero_le _) (Nat.zero_le _) dDesk_lift_118
            · replace H := H.2 c
              refine gw_ldc CX.1 wc_Desk_92 dDesk_lift_103 ?_
              exact gw_iret CX rfl rfl ⟨_, _, _, rfl, rfl, H⟩ (Nat.zero_le _) (Nat.zero_le _) dDesk_lift_105
        · replace H := H.2 c
          refine gw_ldc CX.1 wc_Desk_61 dDesk_lift_76 ?_
          exact gw_iret CX rfl rfl ⟨_, _, _, rfl, rfl, H⟩ (Nat.zero_le _) (Nat.zero_le _) dDesk_lift_78
  · replace H := H.2 c
    refine gw_aload_n CX.1 1 rfl dDesk_lift_34 rfl ?_
    refine gg_Desk_10 CX.1 rfl dDesk_lift_35 ?_
    refine gw_iload_n CX.1 2 rfl dDesk_lift_38 rfl ?_
    refine gw_ldc CX.1 wc_Desk_62 dDesk_lift_39 ?_
    refine gw_ldc CX.1 wc_Desk_62 dDesk_lift_41 ?_
    refine cl_Show_setLift CX (Nat.le_of_ble_eq_true rfl) wm_Desk_84 dDesk_lift_43 H (fun F6 G6 H => ?_)
    refine gw_iload CX.1 0 rfl dDesk_lift_46 ?_
    exact gw_iret CX rfl rfl ⟨_, _, _, rfl, rfl, H⟩ (Nat.zero_le _) (Nat.zero_le _) dDesk_lift_48
theorem eDesk_lift {D : va_G} {d : Nat} {Q : Int32 → (Nat → Nat → Int32) → (Nat → Int64) → Prop} {F : Nat → Nat → Int32} {G : Nat → Int64} {a0 : Int32} {a1 : Int32} {a2 : Int32} (H : AMi D d nDesk_isCue [.int a0] F G (fun x1_ F1 G1 => ((¬ x1_ = 0 → AMi D d nShow_hasLift [.ref 2, .int a0] F1 G1 (fun x2_ F2 G2 => ((x2_ = 0 → AWi D (d + 1) nDesk_lift 26 [(0, .ref 1), (1, .int a0), (2, .int a1), (3, .int a2)] [.int 0] F2 G2 Q) ∧ (¬ (x2_ = 0) → AWi D (d + 1) nDesk_lift 26 [(0, .ref 1), (1, .int a0), (2, .int a1), (3, .int a2)] [.int 1] F2 G2 Q)))) ∧ (x1_ = 0 → Q (-1000000001) F1 G1)))) : AMi D (d + 1) nDesk_lift [.ref 1, .int a0, .int a1, .int a2] F G Q := by
  refine AM_intro (by decide) (Nat.le_of_ble_eq_true rfl) ?_
  intro X CX
  refine gw_iload_n CX.1 1 rfl dDesk_lift_0 rfl ?_
  refine cl_Desk_isCue CX (Nat.le_of_ble_eq_true rfl) wm_Desk_67 dDesk_lift_1 H (fun x1_ F1 G1 H => ?_)
  refine gw_if_ne (tgt := 10) CX.1 dDesk_lift_4 (by decide) (fun c => ?_) (fun c => ?_)
  · replace H := H.1 c
    refine gw_aload_n CX.1 0 rfl dDesk_lift_10 rfl ?_
    refine gg_Desk_10 CX.1 rfl dDesk_lift_11 ?_
    refine gw_iload_n CX.1 1 rfl dDesk_lift_14 rfl ?_
    refine cl_Show_hasLift CX (Nat.le_of_ble_eq_true rfl) wm_Desk_81 dDesk_lift_15 H (fun x2_ F2 G2 H => ?_)
    refine gw_if_eq (tgt := 25) CX.1 dDesk_lift_18 (by decide) (fun c => ?_) (fun c => ?_)
    · replace H := H.1 c
      refine gw_iconst (v := 0) CX.1 dDesk_lift_25 (by decide) ?_
      exact H X CX
    · replace H := H.2 c
      refine gw_iconst (v := 1) CX.1 dDesk_lift_21 (by decide) ?_
      refine gw_goto (tgt := 26) CX.1 dDesk_lift_22 (by decide) ?_
      exact H X CX
  · replace H := H.2 c
    refine gw_ldc CX.1 wc_Desk_61 dDesk_lift_7 ?_
    exact gw_iret CX rfl rfl ⟨_, _, _, rfl, rfl, H⟩ (Nat.zero_le _) (Nat.zero_le _) dDesk_lift_9
theorem bDesk_lay_108_v0 {D : va_G} {d : Nat} {Q : Int32 → (Nat → Nat → Int32) → (Nat → Int64) → Prop} {F : Nat → Nat → Int32} {G : Nat → Int64} {x1 : Int32} {x2 : Int32} {x3 : Int32} {x5 : Int32} {x6 : Int32} {s0 : Int32} {s1 : Int32} {s2 : Int32} (H : AMv D d nShow_put [.ref 2, .int s2, .int s1, .int s0, .int 0] F G (fun F1 G1 => AWi D (d + 1) nDesk_lay 62 [(0, .ref 1), (1, .int x1), (2, .int x2), (3, .int x3), (4, .ref 35), (5, .int (x5 + 1))] [] F1 G1 Q)) : AWi D (d + 1) nDesk_lay 108 [(0, .ref 1), (1, .int x1), (2, .int x2), (3, .int x3), (4, .ref 35), (5, .int x5), (6, .int x6)] [.int s0, .int s1, .int s2, .ref 2] F G Q := by
  intro X CX
  refine gw_iconst (v := 0) CX.1 dDesk_lay_108 (by decide) ?_
  refine cl_Show_put CX (Nat.le_of_ble_eq_true rfl) wm_Desk_77 dDesk_lay_109 H (fun F1 G1 H => ?_)
  refine gw_iinc (v := (x5 + 1)) CX.1 5 rfl dDesk_lay_112 rfl (by decide) rfl ?_
  refine gw_goto (tgt := 62) CX.1 dDesk_lay_115 (by decide) ?_
  exact gw_sub [1, 2, 3, 4, 5, 0] rfl (H X CX)
theorem bDesk_lay_108_v1 {D : va_G} {d : Nat} {Q : Int32 → (Nat → Nat → Int32) → (Nat → Int64) → Prop} {F : Nat → Nat → Int32} {G : Nat → Int64} {x1 : Int32} {x2 : Int32} {x3 : Int32} {x5 : Int32} {x6 : Int32} {s0 : Int32} {s1 : Int32} {s2 : Int32} (H : AMv D d nShow_put [.ref 2, .int s2, .int s1, .int s0, .int 0] F G (fun F1 G1 => AWi D (d + 1) nDesk_lay 62 [(0, .ref 1), (1, .int x1), (2, .int x2), (3, .int x3), (4, .ref 37), (5, .int (x5 + 1))] [] F1 G1 Q)) : AWi D (d + 1) nDesk_lay 108 [(0, .ref 1), (1, .int x1), (2, .int x2), (3, .int x3), (4, .ref 37), (5, .int x5), (6, .int x6)] [.int s0, .int s1, .int s2, .ref 2] F G Q := by
  intro X CX
  refine gw_iconst (v := 0) CX.1 dDesk_lay_108 (by decide) ?_
  refine cl_Show_put CX (Nat.le_of_ble_eq_true rfl) wm_Desk_77 dDesk_lay_109 H (fun F1 G1 H => ?_)
  refine gw_iinc (v := (x5 + 1)) CX.1 5 rfl dDesk_lay_112 rfl (by decide) rfl ?_
  refine gw_goto (tgt := 62) CX.1 dDesk_lay_115 (by decide) ?_
  exact gw_sub [1, 2, 3, 4, 5, 0] rfl (H X CX)
theorem bDesk_lay_62_v0 {D : va_G} {d : Nat} {Q : Int32 → (Nat → Nat → Int32) → (Nat → Int64) → Prop} {F : Nat → Nat → Int32} {G : Nat → Int64} {x1 : Int32} {x2 : Int32} {x3 : Int32} {x5 : Int32} (H : AMi D d nSheet_length [.ref 35] F G (fun x1_ F1 G1 => ((x1_ ≤ x5 → AMi D d nSheet_length [.ref 35] F1 G1 (fun x2_ F2 G2 => Q x2_ F2 G2)) ∧ (¬ (x1_ ≤ x5) → AMi D d nSheet_valueAt [.ref 35, .int x5] F1 G1 (fun x3_ F3 G3 => AMi D d nDesk_isWithin [.int x3_, .int 0, .int 9] F3 G3 (fun x4_ F4 G4 => ((x4_ = 0 → AWi D (d + 1) nDesk_lay 108 [(0, .ref 1), (1, .int x1), (2, .int x2), (3, .int x3), (4, .ref 35), (5, .int x5), (6, .int x3_)] [.int (-1000000005), .int (x2 + x5), .int x1, .ref 2] F4 G4 Q) ∧ (¬ (x4_ = 0) → AWi D (d + 1) nDesk_lay 108 [(0, .ref 1), (1, .int x1), (2, .int x2), (3, .int x3), (4, .ref 35), (5, .int x5), (6, .int x3_)] [.int x3_, .int (x2 + x5), .int x1, .ref 2] F4 G4 Q)))))))) : AWi D (d + 1) nDesk_lay 62 [(0, .ref 1), (1, .int x1), (2, .int x2), (3, .int x3), (4, .ref 35), (5, .int x5)] [] F G Q := by
  intro X CX
  refine gw_iload CX.1 5 rfl dDesk_lay_62 ?_
  refine gw_aload CX.1 4 rfl dDesk_lay_64 ?_
  refine cl_Sheet_length_0 CX (Nat.le_of_ble_eq_true rfl) wm_Desk_102 dDesk_lay_66 H (fun x1_ F1 G1 H => ?_)
  refine gw_icmp_ge (tgt := 118) CX.1 dDesk_lay_69 (by decide) (fun c => ?_) (fun c => ?_)
  · replace H := H.1 c
    refine gw_aload CX.1 4 rfl dDesk_lay_118 ?_
    refine cl_Sheet_length_0 CX (Nat.le_of_ble_eq_true rfl) wm_Desk_102 dDesk_lay_120 H (fun x2_ F2 G2 H => ?_)
    exact gw_iret CX rfl rfl ⟨_, _, _, rfl, rfl, H⟩ (Nat.zero_le _) (Nat.zero_le _) dDesk_lay_123
  · replace H := H.2 c
    refine gw_aload CX.1 4 rfl dDesk_lay_72 ?_
    refine gw_iload CX.1 5 rfl dDesk_lay_74 ?_
    refine cl_Sheet_valueAt_0 CX (Nat.le_of_ble_eq_true rfl) wm_Desk_107 dDesk_lay_76 H (fun x3_ F3 G3 H => ?_)
    refine gw_istore CX.1 dDesk_lay_79 (by decide) rfl ?_
    refine gw_aload_n CX.1 1 rfl dDesk_lay_81 rfl ?_
    refine gg_Desk_10 CX.1 rfl dDesk_lay_82 ?_
    refine gw_iload_n CX.1 2 rfl dDesk_lay_85 rfl ?_
    refine gw_iload_n CX.1 3 rfl dDesk_lay_86 rfl ?_
    refine gw_iload CX.1 6 rfl dDesk_lay_87 ?_
    refine gw_iadd CX.1 dDesk_lay_89 ?_
    refine gw_iload CX.1 0 rfl dDesk_lay_90 ?_
    refine gw_iconst (v := 0) CX.1 dDesk_lay_92 (by decide) ?_
    refine gw_bipush (v := 9) CX.1 dDesk_lay_93 (by decide) ?_
    refine cl_Desk_isWithin CX (Nat.le_of_ble_eq_true rfl) wm_Desk_53 dDesk_lay_95 H (fun x4_ F4 G4 H => ?_)
    refine gw_if_eq (tgt := 106) CX.1 dDesk_lay_98 (by decide) (fun c => ?_) (fun c => ?_)
    · replace H := H.1 c
      refine gw_ldc CX.1 wc_Desk_62 dDesk_lay_106 ?_
      exact gw_sub [1, 2, 3, 4, 5, 6, 0] rfl (H X CX)
    · replace H := H.2 c
      refine gw_iload CX.1 0 rfl dDesk_lay_101 ?_
      refine gw_goto (tgt := 108) CX.1 dDesk_lay_103 (by decide) ?_
      exact gw_sub [1, 2, 3, 4, 5, 6, 0] rfl (H X CX)
theorem bDesk_lay_62_v1 {D : va_G} {d : Nat} {Q : Int32 → (Nat → Nat → Int32) → (Nat → Int64) → Prop} {F : Nat → Nat → Int32} {G : Nat → Int64} {x1 : Int32} {x2 : Int32} {x3 : Int32} {x5 : Int32} (H : AMi D d nSheet_length [.ref 37] F G (fun x1_ F1 G1 => ((x1_ ≤ x5 → AMi D d nSheet_length [.ref 37] F1 G1 (fun x2_ F2 G2 => Q x2_ F2 G2)) ∧ (¬ (x1_ ≤ x5) → AMi D d nSheet_valueAt [.ref 37, .int x5] F1 G1 (fun x3_ F3 G3 => AMi D d nDesk_isWithin [.int x3_, .int 0, .int 9] F3 G3 (fun x4_ F4 G4 => ((x4_ = 0 → AWi D (d + 1) nDesk_lay 108 [(0, .ref 1), (1, .int x1), (2, .int x2), (3, .int x3), (4, .ref 37), (5, .int x5), (6, .int x3_)] [.int (-1000000005), .int (x2 + x5), .int x1, .ref 2] F4 G4 Q) ∧ (¬ (x4_ = 0) → AWi D (d + 1) nDesk_lay 108 [(0, .ref 1), (1, .int x1), (2, .int x2), (3, .int x3), (4, .ref 37), (5, .int x5), (6, .int x3_)] [.int x3_, .int (x2 + x5), .int x1, .ref 2] F4 G4 Q)))))))) : AWi D (d + 1) nDesk_lay 62 [(0, .ref 1), (1, .int x1), (2, .int x2), (3, .int x3), (4, .ref 37), (5, .int x5)] [] F G Q := by
  intro X CX
  refine gw_iload CX.1 5 rfl dDesk_lay_62 ?_
  refine gw_aload CX.1 4 rfl dDesk_lay_64 ?_
  refine cl_Sheet_length_1 CX (Nat.le_of_ble_eq_true rfl) wm_Desk_102 dDesk_lay_66 H (fun x1_ F1 G1 H => ?_)
  refine gw_icmp_ge (tgt := 118) CX.1 dDesk_lay_69 (by decide) (fun c => ?_) (fun c => ?_)
  · replace H := H.1 c
    refine gw_aload CX.1 4 rfl dDesk_lay_118 ?_
    refine cl_Sheet_length_1 CX (Nat.le_of_ble_eq_true rfl) wm_Desk_102 dDesk_lay_120 H (fun x2_ F2 G2 H => ?_)
    exact gw_iret CX rfl rfl ⟨_, _, _, rfl, rfl, H⟩ (Nat.zero_le _) (Nat.zero_le _) dDesk_lay_123
  · replace H := H.2 c
    refine gw_aload CX.1 4 rfl dDesk_lay_72 ?_
    refine gw_iload CX.1 5 rfl dDesk_lay_74 ?_
    refine cl_Sheet_valueAt_1 CX (Nat.le_of_ble_eq_true rfl) wm_Desk_107 dDesk_lay_76 H (fun x3_ F3 G3 H => ?_)
    refine gw_istore CX.1 dDesk_lay_79 (by decide) rfl ?_
    refine gw_aload_n CX.1 1 rfl dDesk_lay_81 rfl ?_
    refine gg_Desk_10 CX.1 rfl dDesk_lay_82 ?_
    refine gw_iload_n CX.1 2 rfl dDesk_lay_85 rfl ?_
    refine gw_iload_n CX.1 3 rfl dDesk_lay_86 rfl ?_
    refine gw_iload CX.1 6 rfl dDesk_lay_87 ?_
    refine gw_iadd CX.1 dDesk_lay_89 ?_
    refine gw_iload CX.1 0 rfl dDesk_lay_90 ?_
    refine gw_iconst (v := 0) CX.1 dDesk_lay_92 (by decide) ?_
    refine gw_bipush (v := 9) CX.1 dDesk_lay_93 (by decide) ?_
    refine cl_Desk_isWithin CX (Nat.le_of_ble_eq_true rfl) wm_Desk_53 dDesk_lay_95 H (fun x4_ F4 G4 H => ?_)
    refine gw_if_eq (tgt := 106) CX.1 dDesk_lay_98 (by decide) (fun c => ?_) (fun c => ?_)
    · replace H := H.1 c
      refine gw_ldc CX.1 wc_Desk_62 dDesk_lay_106 ?_
      exact gw_sub [1, 2, 3, 4, 5, 6, 0] rfl (H X CX)
    · replace H := H.2 c
      refine gw_iload CX.1 0 rfl dDesk_lay_101 ?_
      refine gw_goto (tgt := 108) CX.1 dDesk_lay_103 (by decide) ?_
      exact gw_sub [1, 2, 3, 4, 5, 6, 0] rfl (H X CX)
theorem eDesk_lay {D : va_G} {d : Nat} {Q : Int32 → (Nat → Nat → Int32) → (Nat → Int64) → Prop} {F : Nat → Nat → Int32} {G : Nat → Int64} {a0 : Int32} {a1 : Int32} {a2 : Int32} (H : AMr D d nDesk_sheetOf [.ref 1, .int a2] F G (fun x1_ F1 G1 => (x1_ = .null ∨ x1_ = .ref 35 ∨ x1_ = .ref 37) ∧ ((x1_ = .null → AMi D d nShow_isTrack [.ref 2, .int a0] F1 G1 (fun x2_ F2 G2 => ((x2_ = 0 → Q (-1000000001) F2 G2) ∧ (¬ (x2_ = 0) → AMi D d nDesk_isCue [.int a1] F2 G2 (fun x3_ F3 G3 => ((x3_ = 0 → Q (-1000000001) F3 G3) ∧ (¬ (x3_ = 0) → Q (-1000000001) F3 G3))))))) ∧ (x1_ = .ref 35 → AMi D d nShow_isTrack [.ref 2, .int a0] F1 G1 (fun x4_ F4 G4 => ((x4_ = 0 → Q (-1000000001) F4 G4) ∧ (¬ (x4_ = 0) → AMi D d nDesk_isCue [.int a1] F4 G4 (fun x5_ F5 G5 => ((x5_ = 0 → Q (-1000000001) F5 G5) ∧ (¬ (x5_ = 0) → AMi D d nSheet_isMissing [.ref 35] F5 G5 (fun x6_ F6 G6 => ((x6_ = 0 → AMi D d nSheet_length [.ref 35] F6 G6 (fun x7_ F7 G7 => ((x7_ ≤ (30 - a1) → AWi D (d + 1) nDesk_lay 62 [(0, .ref 1), (1, .int a0), (2, .int a1), (3, .int a2), (4, .ref 35), (5, .int 0)] [] F7 G7 Q) ∧ (¬ (x7_ ≤ (30 - a1)) → Q (-1000000013) F7 G7)))) ∧ (¬ (x6_ = 0) → Q (-1000000011) F6 G6)))))))))) ∧ (x1_ = .ref 37 → AMi D d nShow_isTrack [.ref 2, .int a0] F1 G1 (fun x8_ F8 G8 => ((x8_ = 0 → Q (-1000000001) F8 G8) ∧ (¬ (x8_ = 0) → AMi D d nDesk_isCue [.int a1] F8 G8 (fun x9_ F9 G9 => ((x9_ = 0 → Q (-1000000001) F9 G9) ∧ (¬ (x9_ = 0) → AMi D d nSheet_isMissing [.ref 37] F9 G9 (fun x10_ F10 G10 => ((x10_ = 0 → AMi D d nSheet_length [.ref 37] F10 G10 (fun x11_ F11 G11 => ((x11_ ≤ (30 - a1) → AWi D (d + 1) nDesk_lay 62 [(0, .ref 1), (1, .int a0), (2, .int a1), (3, .int a2), (4, .ref 37), (5, .int 0)] [] F11 G11 Q) ∧ (¬ (x11_ ≤ (30 - a1)) → Q (-1000000013) F11 G11)))) ∧ (¬ (x10_ = 0) → Q (-1000000011) F10 G10))))))))))))) : AMi D (d + 1) nDesk_lay [.ref 1, .int a0, .int a1, .int a2] F G Q := by
  refine AM_intro (by decide) (Nat.le_of_ble_eq_true rfl) ?_
  intro X CX
  refine gw_aload_n CX.1 0 rfl dDesk_lay_0 rfl ?_
  refine gw_iload_n CX.1 3 rfl dDesk_lay_1 rfl ?_
  refine cl_Desk_sheetOf CX (Nat.le_of_ble_eq_true rfl) wm_Desk_93 dDesk_lay_2 H (fun x1_ F1 G1 H => ?_)
  obtain ⟨e, H⟩ := H
  rcases e with e | e | e
  · replace H := H.1 e
    subst e
    refine gw_astoreN CX.1 dDesk_lay_5 (by decide) rfl ?_
    refine gw_aload_n CX.1 1 rfl dDesk_lay_7 rfl ?_
    refine gg_Desk_10 CX.1 rfl dDesk_lay_8 ?_
    refine gw_iload_n CX.1 2 rfl dDesk_lay_11 rfl ?_
    refine cl_Show_isTrack CX (Nat.le_of_ble_eq_true rfl) wm_Desk_63 dDesk_lay_12 H (fun x2_ F2 G2 H => ?_)
    refine gw_if_eq (tgt := 30) CX.1 dDesk_lay_15 (by decide) (fun c => ?_) (fun c => ?_)
    · replace H := H.1 c
      refine gw_ldc CX.1 wc_Desk_61 dDesk_lay_30 ?_
      exact gw_iret CX rfl rfl ⟨_, _, _, rfl, rfl, H⟩ (Nat.zero_le _) (Nat.zero_le _) dDesk_lay_32
    · replace H := H.2 c
      refine gw_iload_n CX.1 3 rfl dDesk_lay_18 rfl ?_
      refine cl_Desk_isCue CX (Nat.le_of_ble_eq_true rfl) wm_Desk_67 dDesk_lay_19 H (fun x3_ F3 G3 H => ?_)
      refine gw_if_eq (tgt := 30) CX.1 dDesk_lay_22 (by decide) (fun c => ?_) (fun c => ?_)
      · replace H := H.1 c
        refine gw_ldc CX.1 wc_Desk_61 dDesk_lay_30 ?_
        exact gw_iret CX rfl rfl ⟨_, _, _, rfl, rfl, H⟩ (Nat.zero_le _) (Nat.zero_le _) dDesk_lay_32
      · replace H := H.2 c
        refine gw_aloadN CX.1 0 rfl dDesk_lay_25 ?_
        refine gw_ifnonnullN CX.1 dDesk_lay_27 ?_
        refine gw_ldc CX.1 wc_Desk_61 dDesk_lay_30 ?_
        exact gw_iret CX rfl rfl ⟨_, _, _, rfl, rfl, H⟩ (Nat.zero_le _) (Nat.zero_le _) dDesk_lay_32
  · replace H := H.2.1 e
    subst e
    refine gw_astore CX.1 dDesk_lay_5 (by decide) rfl ?_
    refine gw_aload_n CX.1 1 rfl dDesk_lay_7 rfl ?_
    refine gg_Desk_10 CX.1 rfl dDesk_lay_8 ?_
    refine gw_iload_n CX.1 2 rfl dDesk_lay_11 rfl ?_
    refine cl_Show_isTrack CX (Nat.le_of_ble_eq_true rfl) wm_Desk_63 dDesk_lay_12 H (fun x4_ F4 G4 H => ?_)
    refine gw_if_eq (tgt := 30) CX.1 dDesk_lay_15 (by decide) (fun c => ?_) (fun c => ?_)
    · replace H := H.1 c
      refine gw_ldc CX.1 wc_Desk_61 dDesk_lay_30 ?_
      exact gw_iret CX rfl rfl ⟨_, _, _, rfl, rfl, H⟩ (Nat.zero_le _) (Nat.zero_le _) dDesk_lay_32
    · replace H := H.2 c
      refine gw_iload_n CX.1 3 rfl dDesk_lay_18 rfl ?_
      refine cl_Desk_isCue CX (Nat.le_of_ble_eq_true rfl) wm_Desk_67 dDesk_lay_19 H (fun x5_ F5 G5 H => ?_)
      refine gw_if_eq (tgt := 30) CX.1 dDesk_lay_22 (by decide) (fun c => ?_) (fun c => ?_)
      · replace H := H.1 c
        refine gw_ldc CX.1 wc_Desk_61 dDesk_lay_30 ?_
        exact gw_iret CX rfl rfl ⟨_, _, _, rfl, rfl, H⟩ (Nat.zero_le _) (Nat.zero_le _) dDesk_lay_32
      · replace H := H.2 c
        refine gw_aload CX.1 0 rfl dDesk_lay_25 ?_
        refine gw_ifnonnull (tgt := 33) CX.1 dDesk_lay_27 (by decide) ?_
        refine gw_aload CX.1 0 rfl dDesk_lay_33 ?_
        refine cl_Sheet_isMissing_0 CX (Nat.le_of_ble_eq_true rfl) wm_Desk_97 dDesk_lay_35 H (fun x6_ F6 G6 H => ?_)
        refine gw_if_eq (tgt := 44) CX.1 dDesk_lay_38 (by decide) (fun c => ?_) (fun c => ?_)
        · replace H := H.1 c
          refine gw_aload CX.1 0 rfl dDesk_lay_44 ?_
          refine cl_Sheet_length_0 CX (Nat.le_of_ble_eq_true rfl) wm_Desk_102 dDesk_lay_46 H (fun x7_ F7 G7 H => ?_)
          refine gw_bipush (v := 30) CX.1 dDesk_lay_49 (by decide) ?_
          refine gw_iload_n CX.1 3 rfl dDesk_lay_51 rfl ?_
          refine gw_isub CX.1 dDesk_lay_52 ?_
          refine gw_icmp_le (tgt := 59) CX.1 dDesk_lay_53 (by decide) (fun c => ?_) (fun c => ?_)
          · replace H := H.1 c
            refine gw_iconst (v := 0) CX.1 dDesk_lay_59 (by decide) ?_
            refine gw_istore CX.1 dDesk_lay_60 (by decide) rfl ?_
            exact gw_sub [2, 3, 4, 5, 1, 0] rfl (H X CX)
          · replace H := H.2 c
            refine gw_ldc CX.1 wc_Desk_106 dDesk_lay_56 ?_
            exact gw_iret CX rfl rfl ⟨_, _, _, rfl, rfl, H⟩ (Nat.zero_le _) (Nat.zero_le _) dDesk_lay_58
        · replace H := H.2 c
          refine gw_ldc CX.1 wc_Desk_101 dDesk_lay_41 ?_
          exact gw_iret CX rfl rfl ⟨_, _, _, rfl, rfl, H⟩ (Nat.zero_le _) (Nat.zero_le _) dDesk_lay_43
  · replace H := H.2.2 e
    subst e
    refine gw_astore CX.1 dDesk_lay_5 (by decide) rfl ?_
    refine gw_aload_n CX.1 1 rfl dDesk_lay_7 rfl ?_
    refine gg_Desk_10 CX.1 rfl dDesk_lay_8 ?_
    refine gw_iload_n CX.1 2 rfl dDesk_lay_11 rfl ?_
    refine cl_Show_isTrack CX (Nat.le_of_ble_eq_true rfl) wm_Desk_63 dDesk_lay_12 H (fun x8_ F8 G8 H => ?_)
    refine gw_if_eq (tgt := 30) CX.1 dDesk_lay_15 (by decide) (fun c => ?_) (fun c => ?_)
    · replace H := H.1 c
      refine gw_ldc CX.1 wc_Desk_61 dDesk_lay_30 ?_
      exact gw_iret CX rfl rfl ⟨_, _, _, rfl, rfl, H⟩ (Nat.zero_le _) (Nat.zero_le _) dDesk_lay_32
    · replace H := H.2 c
      refine gw_iload_n CX.1 3 rfl dDesk_lay_18 rfl ?_
      refine cl_Desk_isCue CX (Nat.le_of_ble_eq_true rfl) wm_Desk_67 dDesk_lay_19 H (fun x9_ F9 G9 H => ?_)
      refine gw_if_eq (tgt := 30) CX.1 dDesk_lay_22 (by decide) (fun c => ?_) (fun c => ?_)
      · replace H := H.1 c
        refine gw_ldc CX.1 wc_Desk_61 dDesk_lay_30 ?_
        exact gw_iret CX rfl rfl ⟨_, _, _, rfl, rfl, H⟩ (Nat.zero_le _) (Nat.zero_le _) dDesk_lay_32
      · replace H := H.2 c
        refine gw_aload CX.1 0 rfl dDesk_lay_25 ?_
        refine gw_ifnonnull (tgt := 33) CX.1 dDesk_lay_27 (by decide) ?_
        refine gw_aload CX.1 0 rfl dDesk_lay_33 ?_
        refine cl_Sheet_isMissing_1 CX (Nat.le_of_ble_eq_true rfl) wm_Desk_97 dDesk_lay_35 H (fun x10_ F10 G10 H => ?_)
        refine gw_if_eq (tgt := 44) CX.1 dDesk_lay_38 (by decide) (fun c => ?_) (fun c => ?_)
        · replace H := H.1 c
          refine gw_aload CX.1 0 rfl dDesk_lay_44 ?_
          refine cl_Sheet_length_1 CX (Nat.le_of_ble_eq_true rfl) wm_Desk_102 dDesk_lay_46 H (fun x11_ F11 G11 H => ?_)
          refine gw_bipush (v := 30) CX.1 dDesk_lay_49 (by decide) ?_
          refine gw_iload_n CX.1 3 rfl dDesk_lay_51 rfl ?_
          refine gw_isub CX.1 dDesk_lay_52 ?_
          refine gw_icmp_le (tgt := 59) CX.1 dDesk_lay_53 (by decide) (fun c => ?_) (fun c => ?_)
          · replace H := H.1 c
            refine gw_iconst (v := 0) CX.1 dDesk_lay_59 (by decide) ?_
            refine gw_istore CX.1 dDesk_lay_60 (by decide) rfl ?_
            exact gw_sub [2, 3, 4, 5, 1, 0] rfl (H X CX)
          · replace H := H.2 c
            refine gw_ldc CX.1 wc_Desk_106 dDesk_lay_56 ?_
            exact gw_iret CX rfl rfl ⟨_, _, _, rfl, rfl, H⟩ (Nat.zero_le _) (Nat.zero_le _) dDesk_lay_58
        · replace H := H.2 c
          refine gw_ldc CX.1 wc_Desk_101 dDesk_lay_41 ?_
          exact gw_iret CX rfl rfl ⟨_, _, _, rfl, rfl, H⟩ (Nat.zero_le _) (Nat.zero_le _) dDesk_lay_43
theorem eDesk_sheetOf {D : va_G} {d : Nat} {Q : Value → (Nat → Nat → Int32) → (Nat → Int64) → Prop} {F : Nat → Nat → Int32} {G : Nat → Int64} {a0 : Int32} (H : AMi D d nDesk_isWithin [.int a0, .int 0, .int 1] F G (fun x1_ F1 G1 => ((x1_ = 0 → Q (.null) F1 G1) ∧ (¬ (x1_ = 0) → vp_in a0 2 ∧ ∃ r2 : Nat, gShs a0.toNatClampNeg = some r2 ∧ Q (.ref r2) F1 G1)))) : AMr D (d + 1) nDesk_sheetOf [.ref 1, .int a0] F G Q := by
  refine AM_intro (by decide) (Nat.le_of_ble_eq_true rfl) ?_
  intro X CX
  refine gw_iload_n CX.1 1 rfl dDesk_sheetOf_0 rfl ?_
  refine gw_iconst (v := 0) CX.1 dDesk_sheetOf_1 (by decide) ?_
  refine gw_iconst (v := 1) CX.1 dDesk_sheetOf_2 (by decide) ?_
  refine cl_Desk_isWithin CX (Nat.le_of_ble_eq_true rfl) wm_Desk_53 dDesk_sheetOf_3 H (fun x1_ F1 G1 H => ?_)
  refine gw_if_eq (tgt := 18) CX.1 dDesk_sheetOf_6 (by decide) (fun c => ?_) (fun c => ?_)
  · replace H := H.1 c
    refine gw_null CX.1 dDesk_sheetOf_18 ?_
    exact gw_aretN CX rfl ⟨_, _, _, rfl, rfl, H⟩ (Nat.zero_le _) (Nat.zero_le _) dDesk_sheetOf_19
  · replace H := H.2 c
    refine gw_aload_n CX.1 0 rfl dDesk_sheetOf_9 rfl ?_
    refine gg_Desk_48 CX.1 rfl dDesk_sheetOf_10 ?_
    refine gw_iload_n CX.1 1 rfl dDesk_sheetOf_13 rfl ?_
    obtain ⟨hin, r2, hr, H⟩ := H
    refine gw_aald CX.1 mk_33 hin hr dDesk_sheetOf_14 ?_
    refine gw_goto (tgt := 19) CX.1 dDesk_sheetOf_15 (by decide) ?_
    exact gw_aret CX rfl ⟨_, _, _, rfl, rfl, H⟩ (Nat.zero_le _) (Nat.zero_le _) dDesk_sheetOf_19
theorem eDesk_told {D : va_G} {d : Nat} {Q : Int32 → (Nat → Nat → Int32) → (Nat → Int64) → Prop} {F : Nat → Nat → Int32} {G : Nat → Int64} {a0 : Int32} {a1 : Int32} {a2 : Int32} (H : AMi D d nShow_isTrack [.ref 2, .int a0] F G (fun x1_ F1 G1 => ((x1_ = 0 → Q (-1000000001) F1 G1) ∧ (¬ (x1_ = 0) → AMi D d nDesk_isCue [.int a1] F1 G1 (fun x2_ F2 G2 => ((¬ x2_ = 0 → ((a2 = 0 → AMi D d nShow_placeAt [.ref 2, .int a0, .int a1] F2 G2 (fun x3_ F3 G3 => Q x3_ F3 G3)) ∧ (a2 = 1 → AMi D d nShow_mustAt [.ref 2, .int a0, .int a1] F2 G2 (fun x4_ F4 G4 => Q x4_ F4 G4)) ∧ (a2 = 2 → AMi D d nShow_liftPartner [.ref 2, .int a0, .int a1] F2 G2 (fun x5_ F5 G5 => Q x5_ F5 G5)) ∧ ((¬ a2 = 0 ∧ ¬ a2 = 1 ∧ ¬ a2 = 2) → Q (-1000000001) F2 G2))) ∧ (x2_ = 0 → Q (-1000000001) F2 G2))))))) : AMi D (d + 1) nDesk_told [.ref 1, .int a0, .int a1, .int a2] F G Q := by
  refine AM_intro (by decide) (Nat.le_of_ble_eq_true rfl) ?_
  intro X CX
  refine gw_aload_n CX.1 0 rfl dDesk_told_0 rfl ?_
  refine gg_Desk_10 CX.1 rfl dDesk_told_1 ?_
  refine gw_iload_n CX.1 1 rfl dDesk_told_4 rfl ?_
  refine cl_Show_isTrack CX (Nat.le_of_ble_eq_true rfl) wm_Desk_63 dDesk_told_5 H (fun x1_ F1 G1 H => ?_)
  refine gw_if_eq (tgt := 18) CX.1 dDesk_told_8 (by decide) (fun c => ?_) (fun c => ?_)
  · replace H := H.1 c
    refine gw_ldc CX.1 wc_Desk_61 dDesk_told_18 ?_
    exact gw_iret CX rfl rfl ⟨_, _, _, rfl, rfl, H⟩ (Nat.zero_le _) (Nat.zero_le _) dDesk_told_20
  · replace H := H.2 c
    refine gw_iload_n CX.1 2 rfl dDesk_told_11 rfl ?_
    refine cl_Desk_isCue CX (Nat.le_of_ble_eq_true rfl) wm_Desk_67 dDesk_told_12 H (fun x2_ F2 G2 H => ?_)
    refine gw_if_ne (tgt := 21) CX.1 dDesk_told_15 (by decide) (fun c => ?_) (fun c => ?_)
    · replace H := H.1 c
      refine gw_iload_n CX.1 3 rfl dDesk_told_21 rfl ?_
      by_cases e0 : a2 = 0
      · replace H := H.1 e0
        refine gw_tableIn (off := 26) (tgt := 48) CX.1 dDesk_told_22 (by rw [e0]; decide) (by rw [e0]; decide) (by rw [e0]; decide) (by decide) ?_
        refine gw_aload_n CX.1 0 rfl dDesk_told_48 rfl ?_
        refine gg_Desk_10 CX.1 rfl dDesk_told_49 ?_
        refine gw_iload_n CX.1 1 rfl dDesk_told_52 rfl ?_
        refine gw_iload_n CX.1 2 rfl dDesk_told_53 rfl ?_
        refine cl_Show_placeAt CX (Nat.le_of_ble_eq_true rfl) wm_Desk_73 dDesk_told_54 H (fun x3_ F3 G3 H => ?_)
        exact gw_iret CX rfl rfl ⟨_, _, _, rfl, rfl, H⟩ (Nat.zero_le _) (Nat.zero_le _) dDesk_told_57
      by_cases e1 : a2 = 1
      · replace H := H.2.1 e1
        refine gw_tableIn (off := 36) (tgt := 58) CX.1 dDesk_told_22 (by rw [e1]; decide) (by rw [e1]; decide) (by rw [e1]; decide) (by decide) ?_
        refine gw_aload_n CX.1 0 rfl dDesk_told_58 rfl ?_
        refine gg_Desk_10 CX.1 rfl dDesk_told_59 ?_
        refine gw_iload_n CX.1 1 rfl dDesk_told_62 rfl ?_
        refine gw_iload_n CX.1 2 rfl dDesk_told_63 rfl ?_
        refine cl_Show_mustAt CX (Nat.le_of_ble_eq_true rfl) wm_Desk_110 dDesk_told_64 H (fun x4_ F4 G4 H => ?_)
        exact gw_iret CX rfl rfl ⟨_, _, _, rfl, rfl, H⟩ (Nat.zero_le _) (Nat.zero_le _) dDesk_told_67
      by_cases e2 : a2 = 2
      · replace H := H.2.2.1 e2
        refine gw_tableIn (off := 46) (tgt := 68) CX.1 dDesk_told_22 (by rw [e2]; decide) (by rw [e2]; decide) (by rw [e2]; decide) (by decide) ?_
        refine gw_aload_n CX.1 0 rfl dDesk_told_68 rfl ?_
        refine gg_Desk_10 CX.1 rfl dDesk_told_69 ?_
        refine gw_iload_n CX.1 1 rfl dDesk_told_72 rfl ?_
        refine gw_iload_n CX.1 2 rfl dDesk_told_73 rfl ?_
        refine cl_Show_liftPartner CX (Nat.le_of_ble_eq_true rfl) wm_Desk_113 dDesk_told_74 H (fun x5_ F5 G5 H => ?_)
        exact gw_iret CX rfl rfl ⟨_, _, _, rfl, rfl, H⟩ (Nat.zero_le _) (Nat.zero_le _) dDesk_told_77
      replace H := H.2.2.2 ⟨e0, e1, e2⟩
      have n0 := lv_neT (a := 0) e0 (by decide)
      have n1 := lv_neT (a := 1) e1 (by decide)
      have n2 := lv_neT (a := 2) e2 (by decide)
      refine gw_tableOut (tgt := 78) CX.1 dDesk_told_22 (by omega) (by decide) ?_
      refine gw_ldc CX.1 wc_Desk_61 dDesk_told_78 ?_
      exact gw_iret CX rfl rfl ⟨_, _, _, rfl, rfl, H⟩ (Nat.zero_le _) (Nat.zero_le _) dDesk_told_80
    · replace H := H.2 c
      refine gw_ldc CX.1 wc_Desk_61 dDesk_told_18 ?_
      exact gw_iret CX rfl rfl ⟨_, _, _, rfl, rfl, H⟩ (Nat.zero_le _) (Nat.zero_le _) dDesk_told_20
theorem eDesk_person {D : va_G} {d : Nat} {Q : Int32 → (Nat → Nat → Int32) → (Nat → Int64) → Prop} {F : Nat → Nat → Int32} {G : Nat → Int64} {a0 : Int32} {a1 : Int32} (H : AMi D d nDesk_isKind [.int a0] F G (fun x1_ F1 G1 => ((x1_ = 0 → Q (-1000000001) F1 G1) ∧ (¬ (x1_ = 0) → AMi D d nDesk_isWithin [.int a1, .int 1, .int 9] F1 G1 (fun x2_ F2 G2 => ((x2_ = 0 → Q (-1000000001) F2 G2) ∧ (¬ (x2_ = 0) → AMi D d nCompany_addPerson [.ref 8, .int a0, .int a1] F2 G2 (fun x3_ F3 G3 => Q x3_ F3 G3)))))))) : AMi D (d + 1) nDesk_person [.ref 1, .int a0, .int a1] F G Q := by
  refine AM_intro (by decide) (Nat.le_of_ble_eq_true rfl) ?_
  intro X CX
  refine gw_iload_n CX.1 1 rfl dDesk_person_0 rfl ?_
  refine cl_Desk_isKind CX (Nat.le_of_ble_eq_true rfl) wm_Desk_116 dDesk_person_1 H (fun x1_ F1 G1 H => ?_)
  refine gw_if_eq (tgt := 29) CX.1 dDesk_person_4 (by decide) (fun c => ?_) (fun c => ?_)
  · replace H := H.1 c
    refine gw_ldc CX.1 wc_Desk_61 dDesk_person_29 ?_
    exact gw_iret CX rfl rfl ⟨_, _, _, rfl, rfl, H⟩ (Nat.zero_le _) (Nat.zero_le _) dDesk_person_31
  · replace H := H.2 c
    refine gw_iload_n CX.1 2 rfl dDesk_person_7 rfl ?_
    refine gw_iconst (v := 1) CX.1 dDesk_person_8 (by decide) ?_
    refine gw_bipush (v := 9) CX.1 dDesk_person_9 (by decide) ?_
    refine cl_Desk_isWithin CX (Nat.le_of_ble_eq_true rfl) wm_Desk_53 dDesk_person_11 H (fun x2_ F2 G2 H => ?_)
    refine gw_if_eq (tgt := 29) CX.1 dDesk_person_14 (by decide) (fun c => ?_) (fun c => ?_)
    · replace H := H.1 c
      refine gw_ldc CX.1 wc_Desk_61 dDesk_person_29 ?_
      exact gw_iret CX rfl rfl ⟨_, _, _, rfl, rfl, H⟩ (Nat.zero_le _) (Nat.zero_le _) dDesk_person_31
    · replace H := H.2 c
      refine gw_aload_n CX.1 0 rfl dDesk_person_17 rfl ?_
      refine gg_Desk_19 CX.1 rfl dDesk_person_18 ?_
      refine gw_iload_n CX.1 1 rfl dDesk_person_21 rfl ?_
      refine gw_iload_n CX.1 2 rfl dDesk_person_22 rfl ?_
      refine cl_Company_addPerson CX (Nat.le_of_ble_eq_true rfl) wm_Desk_119 dDesk_person_23 H (fun x3_ F3 G3 H => ?_)
      refine gw_goto (tgt := 31) CX.1 dDesk_person_26 (by decide) ?_
      exact gw_iret CX rfl rfl ⟨_, _, _, rfl, rfl, H⟩ (Nat.zero_le _) (Nat.zero_le _) dDesk_person_31
theorem eDesk_isOf {D : va_G} {d : Nat} {Q : Int32 → (Nat → Nat → Int32) → (Nat → Int64) → Prop} {F : Nat → Nat → Int32} {G : Nat → Int64} {a0 : Int32} {a1 : Int32} (H : AMi D d nCompany_isPerson [.ref 8, .int a0] F G (fun x1_ F1 G1 => ((x1_ = 0 → Q (-1000000001) F1 G1) ∧ (¬ (x1_ = 0) → AMi D d nDesk_isKind [.int a1] F1 G1 (fun x2_ F2 G2 => ((¬ x2_ = 0 → AMi D d nCompany_isOfKind [.ref 8, .int a0, .int a1] F2 G2 (fun x3_ F3 G3 => ((x3_ = 0 → Q 0 F3 G3) ∧ (¬ (x3_ = 0) → Q 1 F3 G3)))) ∧ (x2_ = 0 → Q (-1000000001) F2 G2))))))) : AMi D (d + 1) nDesk_isOf [.ref 1, .int a0, .int a1] F G Q := by
  refine AM_intro (by decide) (Nat.le_of_ble_eq_true rfl) ?_
  intro X CX
  refine gw_aload_n CX.1 0 rfl dDesk_isOf_0 rfl ?_
  refine gg_Desk_19 CX.1 rfl dDesk_isOf_1 ?_
  refine gw_iload_n CX.1 1 rfl dDesk_isOf_4 rfl ?_
  refine cl_Company_isPerson CX (Nat.le_of_ble_eq_true rfl) wm_Desk_122 dDesk_isOf_5 H (fun x1_ F1 G1 H => ?_)
  refine gw_if_eq (tgt := 18) CX.1 dDesk_isOf_8 (by decide) (fun c => ?_) (fun c => ?_)
  · replace H := H.1 c
    refine gw_ldc CX.1 wc_Desk_61 dDesk_isOf_18 ?_
    exact gw_iret CX rfl rfl ⟨_, _, _, rfl, rfl, H⟩ (Nat.zero_le _) (Nat.zero_le _) dDesk_isOf_20
  · replace H := H.2 c
    refine gw_iload_n CX.1 2 rfl dDesk_isOf_11 rfl ?_
    refine cl_Desk_isKind CX (Nat.le_of_ble_eq_true rfl) wm_Desk_116 dDesk_isOf_12 H (fun x2_ F2 G2 H => ?_)
    refine gw_if_ne (tgt := 21) CX.1 dDesk_isOf_15 (by decide) (fun c => ?_) (fun c => ?_)
    · replace H := H.1 c
      refine gw_aload_n CX.1 0 rfl dDesk_isOf_21 rfl ?_
      refine gg_Desk_19 CX.1 rfl dDesk_isOf_22 ?_
      refine gw_iload_n CX.1 1 rfl dDesk_isOf_25 rfl ?_
      refine gw_iload_n CX.1 2 rfl dDesk_isOf_26 rfl ?_
      refine cl_Company_isOfKind CX (Nat.le_of_ble_eq_true rfl) wm_Desk_125 dDesk_isOf_27 H (fun x3_ F3 G3 H => ?_)
      refine gw_if_eq (tgt := 37) CX.1 dDesk_isOf_30 (by decide) (fun c => ?_) (fun c => ?_)
      · replace H := H.1 c
        refine gw_iconst (v := 0) CX.1 dDesk_isOf_37 (by decide) ?_
        exact gw_iret CX rfl rfl ⟨_, _, _, rfl, rfl, H⟩ (Nat.zero_le _) (Nat.zero_le _) dDesk_isOf_38
      · replace H := H.2 c
        refine gw_iconst (v := 1) CX.1 dDesk_isOf_33 (by decide) ?_
        refine gw_goto (tgt := 38) CX.1 dDesk_isOf_34 (by decide) ?_
        exact gw_iret CX rfl rfl ⟨_, _, _, rfl, rfl, H⟩ (Nat.zero_le _) (Nat.zero_le _) dDesk_isOf_38
    · replace H := H.2 c
      refine gw_ldc CX.1 wc_Desk_61 dDesk_isOf_18 ?_
      exact gw_iret CX rfl rfl ⟨_, _, _, rfl, rfl, H⟩ (Nat.zero_le _) (Nat.zero_le _) dDesk_isOf_20
theorem bDesk_own_31 {D : va_G} {d : Nat} {Q : Int32 → (Nat → Nat → Int32) → (Nat → Int64) → Prop} {F : Nat → Nat → Int32} {G : Nat → Int64} {x1 : Int32} {x2 : Int32} (H : AMi D d nCompany_ownerOf [.ref 8, .int x2] F G (fun x1_ F1 G1 => ((x1_ = (-1000000005) → AWi D (d + 1) nDesk_own 54 [(0, .ref 1), (1, .int x1), (2, .int x2), (3, .int x1_)] [] F1 G1 Q) ∧ (¬ (x1_ = (-1000000005)) → ((x1_ = x1 → AWi D (d + 1) nDesk_own 54 [(0, .ref 1), (1, .int x1), (2, .int x2), (3, .int x1_)] [] F1 G1 Q) ∧ (¬ (x1_ = x1) → Q (-1000000002) F1 G1)))))) : AWi D (d + 1) nDesk_own 31 [(0, .ref 1), (1, .int x1), (2, .int x2)] [] F G Q := by
  intro X CX
  refine gw_aload_n CX.1 0 rfl dDesk_own_31 rfl ?_
  refine gg_Desk_19 CX.1 rfl dDesk_own_32 ?_
  refine gw_iload_n CX.1 2 rfl dDesk_own_35 rfl ?_
  refine cl_Company_ownerOf CX (Nat.le_of_ble_eq_true rfl) wm_Desk_128 dDesk_own_36 H (fun x1_ F1 G1 H => ?_)
  refine gw_istore_n CX.1 dDesk_own_39 rfl (by decide) rfl ?_
  refine gw_iload_n CX.1 0 rfl dDesk_own_40 rfl ?_
  refine gw_ldc CX.1 wc_Desk_62 dDesk_own_41 ?_
  refine gw_icmp_eq (tgt := 54) CX.1 dDesk_own_43 (by decide) (fun c => ?_) (fun c => ?_)
  · replace H := H.1 c
    exact gw_sub [1, 2, 3, 0] rfl (H X CX)
  · replace H := H.2 c
    refine gw_iload_n CX.1 0 rfl dDesk_own_46 rfl ?_
    refine gw_iload_n CX.1 2 rfl dDesk_own_47 rfl ?_
    refine gw_icmp_eq (tgt := 54) CX.1 dDesk_own_48 (by decide) (fun c => ?_) (fun c => ?_)
    · replace H := H.1 c
      exact gw_sub [1, 2, 3, 0] rfl (H X CX)
    · replace H := H.2 c
      refine gw_ldc CX.1 wc_Desk_92 dDesk_own_51 ?_
      exact gw_iret CX rfl rfl ⟨_, _, _, rfl, rfl, H⟩ (Nat.zero_le _) (Nat.zero_le _) dDesk_own_53
theorem bDesk_own_54 {D : va_G} {d : Nat} {Q : Int32 → (Nat → Nat → Int32) → (Nat → Int64) → Prop} {F : Nat → Nat → Int32} {G : Nat → Int64} {x1 : Int32} {x2 : Int32} {x3 : Int32} (H : AMi D d nCompany_ownedBy [.ref 8, .int x1] F G (fun x1_ F1 G1 => AMv D d nCompany_setOwned [.ref 8, .int x1, .int x2] F1 G1 (fun F2 G2 => Q x1_ F2 G2))) : AWi D (d + 1) nDesk_own 54 [(0, .ref 1), (1, .int x1), (2, .int x2), (3, .int x3)] [] F G Q := by
  intro X CX
  refine gw_aload_n CX.1 0 rfl dDesk_own_54 rfl ?_
  refine gg_Desk_19 CX.1 rfl dDesk_own_55 ?_
  refine gw_iload_n CX.1 1 rfl dDesk_own_58 rfl ?_
  refine cl_Company_ownedBy CX (Nat.le_of_ble_eq_true rfl) wm_Desk_131 dDesk_own_59 H (fun x1_ F1 G1 H => ?_)
  refine gw_istore CX.1 dDesk_own_62 (by decide) rfl ?_
  refine gw_aload_n CX.1 1 rfl dDesk_own_64 rfl ?_
  refine gg_Desk_19 CX.1 rfl dDesk_own_65 ?_
  refine gw_iload_n CX.1 2 rfl dDesk_own_68 rfl ?_
  refine gw_iload_n CX.1 3 rfl dDesk_own_69 rfl ?_
  refine cl_Company_setOwned CX (Nat.le_of_ble_eq_true rfl) wm_Desk_134 dDesk_own_70 H (fun F2 G2 H => ?_)
  refine gw_iload CX.1 0 rfl dDesk_own_73 ?_
  exact gw_iret CX rfl rfl ⟨_, _, _, rfl, rfl, H⟩ (Nat.zero_le _) (Nat.zero_le _) dDesk_own_75
theorem eDesk_own {D : va_G} {d : Nat} {Q : Int32 → (Nat → Nat → Int32) → (Nat → Int64) → Prop} {F : Nat → Nat → Int32} {G : Nat → Int64} {a0 : Int32} {a1 : Int32} (H : AMi D d nCompany_isPerson [.ref 8, .int a0] F G (fun x1_ F1 G1 => ((x1_ = 0 → Q (-1000000001) F1 G1) ∧ (¬ (x1_ = 0) → ((a1 = (-1000000005) → AWi D (d + 1) nDesk_own 31 [(0, .ref 1), (1, .int a0), (2, .int a1)] [] F1 G1 Q) ∧ (¬ (a1 = (-1000000005)) → AMi D d nShow_isTrack [.ref 2, .int a1] F1 G1 (fun x2_ F2 G2 => ((¬ x2_ = 0 → AWi D (d + 1) nDesk_own 31 [(0, .ref 1), (1, .int a0), (2, .int a1)] [] F2 G2 Q) ∧ (x2_ = 0 → Q (-1000000001) F2 G2))))))))) : AMi D (d + 1) nDesk_own [.ref 1, .int a0, .int a1] F G Q := by
  refine AM_intro (by decide) (Nat.le_of_ble_eq_true rfl) ?_
  intro X CX
  refine gw_aload_n CX.1 0 rfl dDesk_own_0 rfl ?_
  refine gg_Desk_19 CX.1 rfl dDesk_own_1 ?_
  refine gw_iload_n CX.1 1 rfl dDesk_own_4 rfl ?_
  refine cl_Company_isPerson CX (Nat.le_of_ble_eq_true rfl) wm_Desk_122 dDesk_own_5 H (fun x1_ F1 G1 H => ?_)
  refine gw_if_eq (tgt := 28) CX.1 dDesk_own_8 (by decide) (fun c => ?_) (fun c => ?_)
  · replace H := H.1 c
    refine gw_ldc CX.1 wc_Desk_61 dDesk_own_28 ?_
    exact gw_iret CX rfl rfl ⟨_, _, _, rfl, rfl, H⟩ (Nat.zero_le _) (Nat.zero_le _) dDesk_own_30
  · replace H := H.2 c
    refine gw_iload_n CX.1 2 rfl dDesk_own_11 rfl ?_
    refine gw_ldc CX.1 wc_Desk_62 dDesk_own_12 ?_
    refine gw_icmp_eq (tgt := 31) CX.1 dDesk_own_14 (by decide) (fun c => ?_) (fun c => ?_)
    · replace H := H.1 c
      exact H X CX
    · replace H := H.2 c
      refine gw_aload_n CX.1 0 rfl dDesk_own_17 rfl ?_
      refine gg_Desk_10 CX.1 rfl dDesk_own_18 ?_
      refine gw_iload_n CX.1 2 rfl dDesk_own_21 rfl ?_
      refine cl_Show_isTrack CX (Nat.le_of_ble_eq_true rfl) wm_Desk_63 dDesk_own_22 H (fun x2_ F2 G2 H => ?_)
      refine gw_if_ne (tgt := 31) CX.1 dDesk_own_25 (by decide) (fun c => ?_) (fun c => ?_)
      · replace H := H.1 c
        exact H X CX
      · replace H := H.2 c
        refine gw_ldc CX.1 wc_Desk_61 dDesk_own_28 ?_
        exact gw_iret CX rfl rfl ⟨_, _, _, rfl, rfl, H⟩ (Nat.zero_le _) (Nat.zero_le _) dDesk_own_30
theorem eDesk_did {D : va_G} {d : Nat} {Q : Int32 → (Nat → Nat → Int32) → (Nat → Int64) → Prop} {F : Nat → Nat → Int32} {G : Nat → Int64} {a0 : Int32} {a1 : Int32} (H : AMi D d nCompany_isPerson [.ref 8, .int a0] F G (fun x1_ F1 G1 => ((x1_ = 0 → Q (-1000000001) F1 G1) ∧ (¬ (x1_ = 0) → AMi D d nShow_isTrack [.ref 2, .int a1] F1 G1 (fun x2_ F2 G2 => ((¬ x2_ = 0 → AMi D d nCompany_daysSinceDid [.ref 8, .int a0, .int a1] F2 G2 (fun x3_ F3 G3 => AMv D d nCompany_setDidToday [.ref 8, .int a0, .int a1] F3 G3 (fun F4 G4 => Q x3_ F4 G4))) ∧ (x2_ = 0 → Q (-1000000001) F2 G2))))))) : AMi D (d + 1) nDesk_did [.ref 1, .int a0, .int a1] F G Q := by
  refine AM_intro (by decide) (Nat.le_of_ble_eq_true rfl) ?_
  intro X CX
  refine gw_aload_n CX.1 0 rfl dDesk_did_0 rfl ?_
  refine gg_Desk_19 CX.1 rfl dDesk_did_1 ?_
  refine gw_iload_n CX.1 1 rfl dDesk_did_4 rfl ?_
  refine cl_Company_isPerson CX (Nat.le_of_ble_eq_true rfl) wm_Desk_122 dDesk_did_5 H (fun x1_ F1 G1 H => ?_)
  refine gw_if_eq (tgt := 22) CX.1 dDesk_did_8 (by decide) (fun c => ?_) (fun c => ?_)
  · replace H := H.1 c
    refine gw_ldc CX.1 wc_Desk_61 dDesk_did_22 ?_
    exact gw_iret CX rfl rfl ⟨_, _, _, rfl, rfl, H⟩ (Nat.zero_le _) (Nat.zero_le _) dDesk_did_24
  · replace H := H.2 c
    refine gw_aload_n CX.1 0 rfl dDesk_did_11 rfl ?_
    refine gg_Desk_10 CX.1 rfl dDesk_did_12 ?_
    refine gw_iload_n CX.1 2 rfl dDesk_did_15 rfl ?_
    refine cl_Show_isTrack CX (Nat.le_of_ble_eq_true rfl) wm_Desk_63 dDesk_did_16 H (fun x2_ F2 G2 H => ?_)
    refine gw_if_ne (tgt := 25) CX.1 dDesk_did_19 (by decide) (fun c => ?_) (fun c => ?_)
    · replace H := H.1 c
      refine gw_aload_n CX.1 0 rfl dDesk_did_25 rfl ?_
      refine gg_Desk_19 CX.1 rfl dDesk_did_26 ?_
      refine gw_iload_n CX.1 1 rfl dDesk_did_29 rfl ?_
      refine gw_iload_n CX.1 2 rfl dDesk_did_30 rfl ?_
      refine cl_Company_daysSinceDid CX (Nat.le_of_ble_eq_true rfl) wm_Desk_138 dDesk_did_31 H (fun x3_ F3 G3 H => ?_)
      refine gw_istore_n CX.1 dDesk_did_34 rfl (by decide) rfl ?_
      refine gw_aload_n CX.1 1 rfl dDesk_did_35 rfl ?_
      refine gg_Desk_19 CX.1 rfl dDesk_did_36 ?_
      refine gw_iload_n CX.1 2 rfl dDesk_did_39 rfl ?_
      refine gw_iload_n CX.1 3 rfl dDesk_did_40 rfl ?_
      refine cl_Company_setDidToday CX (Nat.le_of_ble_eq_true rfl) wm_Desk_141 dDesk_did_41 H (fun F4 G4 H => ?_)
      refine gw_iload_n CX.1 0 rfl dDesk_did_44 rfl ?_
      exact gw_iret CX rfl rfl ⟨_, _, _, rfl, rfl, H⟩ (Nat.zero_le _) (Nat.zero_le _) dDesk_did_45
    · replace H := H.2 c
      refine gw_ldc CX.1 wc_Desk_61 dDesk_did_22 ?_
      exact gw_iret CX rfl rfl ⟨_, _, _, rfl, rfl, H⟩ (Nat.zero_le _) (Nat.zero_le _) dDesk_did_24
theorem eDesk_fresh {D : va_G} {d : Nat} {Q : Int32 → (Nat → Nat → Int32) → (Nat → Int64) → Prop} {F : Nat → Nat → Int32} {G : Nat → Int64} {a0 : Int32} {a1 : Int32} (H : AMi D d nCompany_isPerson [.ref 8, .int a0] F G (fun x1_ F1 G1 => ((x1_ = 0 → Q (-1000000001) F1 G1) ∧ (¬ (x1_ = 0) → AMi D d nShow_isTrack [.ref 2, .int a1] F1 G1 (fun x2_ F2 G2 => ((¬ x2_ = 0 → AMi D d nCompany_knows [.ref 8, .int a0, .int a1] F2 G2 (fun x3_ F3 G3 => ((¬ x3_ = 0 → AMi D d nCompany_isFresh [.ref 8, .int a0, .int a1] F3 G3 (fun x4_ F4 G4 => ((x4_ = 0 → Q 0 F4 G4) ∧ (¬ (x4_ = 0) → Q 1 F4 G4)))) ∧ (x3_ = 0 → Q (-1000000002) F3 G3)))) ∧ (x2_ = 0 → Q (-1000000001) F2 G2))))))) : AMi D (d + 1) nDesk_fresh [.ref 1, .int a0, .int a1] F G Q := by
  refine AM_intro (by decide) (Nat.le_of_ble_eq_true rfl) ?_
  intro X CX
  refine gw_aload_n CX.1 0 rfl dDesk_fresh_0 rfl ?_
  refine gg_Desk_19 CX.1 rfl dDesk_fresh_1 ?_
  refine gw_iload_n CX.1 1 rfl dDesk_fresh_4 rfl ?_
  refine cl_Company_isPerson CX (Nat.le_of_ble_eq_true rfl) wm_Desk_122 dDesk_fresh_5 H (fun x1_ F1 G1 H => ?_)
  refine gw_if_eq (tgt := 22) CX.1 dDesk_fresh_8 (by decide) (fun c => ?_) (fun c => ?_)
  · replace H := H.1 c
    refine gw_ldc CX.1 wc_Desk_61 dDesk_fresh_22 ?_
    exact gw_iret CX rfl rfl ⟨_, _, _, rfl, rfl, H⟩ (Nat.zero_le _) (Nat.zero_le _) dDesk_fresh_24
  · replace H := H.2 c
    refine gw_aload_n CX.1 0 rfl dDesk_fresh_11 rfl ?_
    refine gg_Desk_10 CX.1 rfl dDesk_fresh_12 ?_
    refine gw_iload_n CX.1 2 rfl dDesk_fresh_15 rfl ?_
    refine cl_Show_isTrack CX (Nat.le_of_ble_eq_true rfl) wm_Desk_63 dDesk_fresh_16 H (fun x2_ F2 G2 H => ?_)
    refine gw_if_ne (tgt := 25) CX.1 dDesk_fresh_19 (by decide) (fun c => ?_) (fun c => ?_)
    · replace H := H.1 c
      refine gw_aload_n CX.1 0 rfl dDesk_fresh_25 rfl ?_
      refine gg_Desk_19 CX.1 rfl dDesk_fresh_26 ?_
      refine gw_iload_n CX.1 1 rfl dDesk_fresh_29 rfl ?_
      refine gw_iload_n CX.1 2 rfl dDesk_fresh_30 rfl ?_
      refine cl_Company_knows CX (Nat.le_of_ble_eq_true rfl) wm_Desk_144 dDesk_fresh_31 H (fun x3_ F3 G3 H => ?_)
      refine gw_if_ne (tgt := 40) CX.1 dDesk_fresh_34 (by decide) (fun c => ?_) (fun c => ?_)
      · replace H := H.1 c
        refine gw_aload_n CX.1 0 rfl dDesk_fresh_40 rfl ?_
        refine gg_Desk_19 CX.1 rfl dDesk_fresh_41 ?_
        refine gw_iload_n CX.1 1 rfl dDesk_fresh_44 rfl ?_
        refine gw_iload_n CX.1 2 rfl dDesk_fresh_45 rfl ?_
        refine cl_Company_isFresh CX (Nat.le_of_ble_eq_true rfl) wm_Desk_147 dDesk_fresh_46 H (fun x4_ F4 G4 H => ?_)
        refine gw_if_eq (tgt := 56) CX.1 dDesk_fresh_49 (by decide) (fun c => ?_) (fun c => ?_)
        · replace H := H.1 c
          refine gw_iconst (v := 0) CX.1 dDesk_fresh_56 (by decide) ?_
          exact gw_iret CX rfl rfl ⟨_, _, _, rfl, rfl, H⟩ (Nat.zero_le _) (Nat.zero_le _) dDesk_fresh_57
        · replace H := H.2 c
          refine gw_iconst (v := 1) CX.1 dDesk_fresh_52 (by decide) ?_
          refine gw_goto (tgt := 57) CX.1 dDesk_fresh_53 (by decide) ?_
          exact gw_iret CX rfl rfl ⟨_, _, _, rfl, rfl, H⟩ (Nat.zero_le _) (Nat.zero_le _) dDesk_fresh_57
      · replace H := H.2 c
        refine gw_ldc CX.1 wc_Desk_92 dDesk_fresh_37 ?_
        exact gw_iret CX rfl rfl ⟨_, _, _, rfl, rfl, H⟩ (Nat.zero_le _) (Nat.zero_le _) dDesk_fresh_39
    · replace H := H.2 c
      refine gw_ldc CX.1 wc_Desk_61 dDesk_fresh_22 ?_
      exact gw_iret CX rfl rfl ⟨_, _, _, rfl, rfl, H⟩ (Nat.zero_le _) (Nat.zero_le _) dDesk_fresh_24
theorem eDesk_rehearse {D : va_G} {d : Nat} {Q : Int32 → (Nat → Nat → Int32) → (Nat → Int64) → Prop} {F : Nat → Nat → Int32} {G : Nat → Int64} {a0 : Int32} {a1 : Int32} (H : AMi D d nCompany_areTwo [.ref 8, .int a0, .int a1] F G (fun x1_ F1 G1 => ((¬ x1_ = 0 → AMi D d nCompany_daysSinceRehearsed [.ref 8, .int a0, .int a1] F1 G1 (fun x2_ F2 G2 => AMv D d nCompany_setRehearsedToday [.ref 8, .int a0, .int a1] F2 G2 (fun F3 G3 => Q x2_ F3 G3))) ∧ (x1_ = 0 → Q (-1000000001) F1 G1)))) : AMi D (d + 1) nDesk_rehearse [.ref 1, .int a0, .int a1] F G Q := by
  refine AM_intro (by decide) (Nat.le_of_ble_eq_true rfl) ?_
  intro X CX
  refine gw_aload_n CX.1 0 rfl dDesk_rehearse_0 rfl ?_
  refine gg_Desk_19 CX.1 rfl dDesk_rehearse_1 ?_
  refine gw_iload_n CX.1 1 rfl dDesk_rehearse_4 rfl ?_
  refine gw_iload_n CX.1 2 rfl dDesk_rehearse_5 rfl ?_
  refine cl_Company_areTwo CX (Nat.le_of_ble_eq_true rfl) wm_Desk_150 dDesk_rehearse_6 H (fun x1_ F1 G1 H => ?_)
  refine gw_if_ne (tgt := 15) CX.1 dDesk_rehearse_9 (by decide) (fun c => ?_) (fun c => ?_)
  · replace H := H.1 c
    refine gw_aload_n CX.1 0 rfl dDesk_rehearse_15 rfl ?_
    refine gg_Desk_19 CX.1 rfl dDesk_rehearse_16 ?_
    refine gw_iload_n CX.1 1 rfl dDesk_rehearse_19 rfl ?_
    refine gw_iload_n CX.1 2 rfl dDesk_rehearse_20 rfl ?_
    refine cl_Company_daysSinceRehearsed CX (Nat.le_of_ble_eq_true rfl) wm_Desk_153 dDesk_rehearse_21 H (fun x2_ F2 G2 H => ?_)
    refine gw_istore_n CX.1 dDesk_rehearse_24 rfl (by decide) rfl ?_
    refine gw_aload_n CX.1 1 rfl dDesk_rehearse_25 rfl ?_
    refine gg_Desk_19 CX.1 rfl dDesk_rehearse_26 ?_
    refine gw_iload_n CX.1 2 rfl dDesk_rehearse_29 rfl ?_
    refine gw_iload_n CX.1 3 rfl dDesk_rehearse_30 rfl ?_
    refine cl_Company_setRehearsedToday CX (Nat.le_of_ble_eq_true rfl) wm_Desk_156 dDesk_rehearse_31 H (fun F3 G3 H => ?_)
    refine gw_iload_n CX.1 0 rfl dDesk_rehearse_34 rfl ?_
    exact gw_iret CX rfl rfl ⟨_, _, _, rfl, rfl, H⟩ (Nat.zero_le _) (Nat.zero_le _) dDesk_rehearse_35
  · replace H := H.2 c
    refine gw_ldc CX.1 wc_Desk_61 dDesk_rehearse_12 ?_
    exact gw_iret CX rfl rfl ⟨_, _, _, rfl, rfl, H⟩ (Nat.zero_le _) (Nat.zero_le _) dDesk_rehearse_14
theorem bDesk_feud_39 {D : va_G} {d : Nat} {Q : Int32 → (Nat → Nat → Int32) → (Nat → Int64) → Prop} {F : Nat → Nat → Int32} {G : Nat → Int64} {x1 : Int32} {x2 : Int32} {x3 : Int32} {s0 : Int32} (H : ((¬ x3 = 1 → AWi D (d + 1) nDesk_feud 57 [(0, .ref 1), (1, .int x1), (2, .int x2), (3, .int x3), (4, .int s0)] [.int 0, .int x2, .int x1, .ref 8] F G Q) ∧ (x3 = 1 → AWi D (d + 1) nDesk_feud 57 [(0, .ref 1), (1, .int x1), (2, .int x2), (3, .int x3), (4, .int s0)] [.int 1, .int x2, .int x1, .ref 8] F G Q))) : AWi D (d + 1) nDesk_feud 39 [(0, .ref 1), (1, .int x1), (2, .int x2), (3, .int x3)] [.int s0] F G Q := by
  intro X CX
  refine gw_istore CX.1 dDesk_feud_39 (by decide) rfl ?_
  refine gw_aload_n CX.1 1 rfl dDesk_feud_41 rfl ?_
  refine gg_Desk_19 CX.1 rfl dDesk_feud_42 ?_
  refine gw_iload_n CX.1 2 rfl dDesk_feud_45 rfl ?_
  refine gw_iload_n CX.1 3 rfl dDesk_feud_46 rfl ?_
  refine gw_iload_n CX.1 4 rfl dDesk_feud_47 rfl ?_
  refine gw_iconst (v := 1) CX.1 dDesk_feud_48 (by decide) ?_
  refine gw_icmp_ne (tgt := 56) CX.1 dDesk_feud_49 (by decide) (fun c => ?_) (fun c => ?_)
  · replace H := H.1 c
    refine gw_iconst (v := 0) CX.1 dDesk_feud_56 (by decide) ?_
    exact gw_sub [1, 2, 3, 4, 0] rfl (H X CX)
  · replace H := H.2 c
    refine gw_iconst (v := 1) CX.1 dDesk_feud_52 (by decide) ?_
    refine gw_goto (tgt := 57) CX.1 dDesk_feud_53 (by decide) ?_
    exact gw_sub [1, 2, 3, 4, 0] rfl (H X CX)
theorem bDesk_feud_57 {D : va_G} {d : Nat} {Q : Int32 → (Nat → Nat → Int32) → (Nat → Int64) → Prop} {F : Nat → Nat → Int32} {G : Nat → Int64} {x1 : Int32} {x2 : Int32} {x3 : Int32} {x4 : Int32} {s0 : Int32} {s1 : Int32} {s2 : Int32} (H : AMv D d nCompany_setFoes [.ref 8, .int s2, .int s1, .int s0] F G (fun F1 G1 => Q x4 F1 G1)) : AWi D (d + 1) nDesk_feud 57 [(0, .ref 1), (1, .int x1), (2, .int x2), (3, .int x3), (4, .int x4)] [.int s0, .int s1, .int s2, .ref 8] F G Q := by
  intro X CX
  refine cl_Company_setFoes CX (Nat.le_of_ble_eq_true rfl) wm_Desk_162 dDesk_feud_57 H (fun F1 G1 H => ?_)
  refine gw_iload CX.1 4 rfl dDesk_feud_60 ?_
  exact gw_iret CX rfl rfl ⟨_, _, _, rfl, rfl, H⟩ (Nat.zero_le _) (Nat.zero_le _) dDesk_feud_62
theorem eDesk_feud {D : va_G} {d : Nat} {Q : Int32 → (Nat → Nat → Int32) → (Nat → Int64) → Prop} {F : Nat → Nat → Int32} {G : Nat → Int64} {a0 : Int32} {a1 : Int32} {a2 : Int32} (H : AMi D d nCompany_areTwo [.ref 8, .int a0, .int a1] F G (fun x1_ F1 G1 => ((x1_ = 0 → Q (-1000000001) F1 G1) ∧ (¬ (x1_ = 0) → AMi D d nDesk_isFlag [.int a2] F1 G1 (fun x2_ F2 G2 => ((¬ x2_ = 0 → AMi D d nCompany_areFoes [.ref 8, .int a0, .int a1] F2 G2 (fun x3_ F3 G3 => ((x3_ = 0 → AWi D (d + 1) nDesk_feud 39 [(0, .ref 1), (1, .int a0), (2, .int a1), (3, .int a2)] [.int 0] F3 G3 Q) ∧ (¬ (x3_ = 0) → AWi D (d + 1) nDesk_feud 39 [(0, .ref 1), (1, .int a0), (2, .int a1), (3, .int a2)] [.int 1] F3 G3 Q)))) ∧ (x2_ = 0 → Q (-1000000001) F2 G2))))))) : AMi D (d + 1) nDesk_feud [.ref 1, .int a0, .int a1, .int a2] F G Q := by
  refine AM_intro (by decide) (Nat.le_of_ble_eq_true rfl) ?_
  intro X CX
  refine gw_aload_n CX.1 0 rfl dDesk_feud_0 rfl ?_
  refine gg_Desk_19 CX.1 rfl dDesk_feud_1 ?_
  refine gw_iload_n CX.1 1 rfl dDesk_feud_4 rfl ?_
  refine gw_iload_n CX.1 2 rfl dDesk_feud_5 rfl ?_
  refine cl_Company_areTwo CX (Nat.le_of_ble_eq_true rfl) wm_Desk_150 dDesk_feud_6 H (fun x1_ F1 G1 H => ?_)
  refine gw_if_eq (tgt := 19) CX.1 dDesk_feud_9 (by decide) (fun c => ?_) (fun c => ?_)
  · replace H := H.1 c
    refine gw_ldc CX.1 wc_Desk_61 dDesk_feud_19 ?_
    exact gw_iret CX rfl rfl ⟨_, _, _, rfl, rfl, H⟩ (Nat.zero_le _) (Nat.zero_le _) dDesk_feud_21
  · replace H := H.2 c
    refine gw_iload_n CX.1 3 rfl dDesk_feud_12 rfl ?_
    refine cl_Desk_isFlag CX (Nat.le_of_ble_eq_true rfl) wm_Desk_70 dDesk_feud_13 H (fun x2_ F2 G2 H => ?_)
    refine gw_if_ne (tgt := 22) CX.1 dDesk_feud_16 (by decide) (fun c => ?_) (fun c => ?_)
    · replace H := H.1 c
      refine gw_aload_n CX.1 0 rfl dDesk_feud_22 rfl ?_
      refine gg_Desk_19 CX.1 rfl dDesk_feud_23 ?_
      refine gw_iload_n CX.1 1 rfl dDesk_feud_26 rfl ?_
      refine gw_iload_n CX.1 2 rfl dDesk_feud_27 rfl ?_
      refine cl_Company_areFoes CX (Nat.le_of_ble_eq_true rfl) wm_Desk_159 dDesk_feud_28 H (fun x3_ F3 G3 H => ?_)
      refine gw_if_eq (tgt := 38) CX.1 dDesk_feud_31 (by decide) (fun c => ?_) (fun c => ?_)
      · replace H := H.1 c
        refine gw_iconst (v := 0) CX.1 dDesk_feud_38 (by decide) ?_
        exact H X CX
      · replace H := H.2 c
        refine gw_iconst (v := 1) CX.1 dDesk_feud_34 (by decide) ?_
        refine gw_goto (tgt := 39) CX.1 dDesk_feud_35 (by decide) ?_
        exact H X CX
    · replace H := H.2 c
      refine gw_ldc CX.1 wc_Desk_61 dDesk_feud_19 ?_
      exact gw_iret CX rfl rfl ⟨_, _, _, rfl, rfl, H⟩ (Nat.zero_le _) (Nat.zero_le _) dDesk_feud_21
theorem eDesk_days {D : va_G} {d : Nat} {Q : Int32 → (Nat → Nat → Int32) → (Nat → Int64) → Prop} {F : Nat → Nat → Int32} {G : Nat → Int64} {a0 : Int32} (H : AMi D d nDesk_isWithin [.int a0, .int 1, .int 60] F G (fun x1_ F1 G1 => ((x1_ = 0 → Q (-1000000001) F1 G1) ∧ (¬ (x1_ = 0) → AMi D d nCompany_today [.ref 8] F1 G1 (fun x2_ F2 G2 => (((x2_ + a0) ≤ 400 → AMv D d nCompany_passDays [.ref 8, .int a0] F2 G2 (fun F3 G3 => AMv D d nNight_clear [.ref 16] F3 G3 (fun F4 G4 => AMi D d nCompany_today [.ref 8] F4 G4 (fun x5_ F5 G5 => Q x5_ F5 G5)))) ∧ (¬ ((x2_ + a0) ≤ 400) → Q (-1000000001) F2 G2))))))) : AMi D (d + 1) nDesk_days [.ref 1, .int a0] F G Q := by
  refine AM_intro (by decide) (Nat.le_of_ble_eq_true rfl) ?_
  intro X CX
  refine gw_iload_n CX.1 1 rfl dDesk_days_0 rfl ?_
  refine gw_iconst (v := 1) CX.1 dDesk_days_1 (by decide) ?_
  refine gw_bipush (v := 60) CX.1 dDesk_days_2 (by decide) ?_
  refine cl_Desk_isWithin CX (Nat.le_of_ble_eq_true rfl) wm_Desk_53 dDesk_days_4 H (fun x1_ F1 G1 H => ?_)
  refine gw_if_eq (tgt := 25) CX.1 dDesk_days_7 (by decide) (fun c => ?_) (fun c => ?_)
  · replace H := H.1 c
    refine gw_ldc CX.1 wc_Desk_61 dDesk_days_25 ?_
    exact gw_iret CX rfl rfl ⟨_, _, _, rfl, rfl, H⟩ (Nat.zero_le _) (Nat.zero_le _) dDesk_days_27
  · replace H := H.2 c
    refine gw_aload_n CX.1 0 rfl dDesk_days_10 rfl ?_
    refine gg_Desk_19 CX.1 rfl dDesk_days_11 ?_
    refine cl_Company_today CX (Nat.le_of_ble_eq_true rfl) wm_Desk_166 dDesk_days_14 H (fun x2_ F2 G2 H => ?_)
    refine gw_iload_n CX.1 1 rfl dDesk_days_17 rfl ?_
    refine gw_iadd CX.1 dDesk_days_18 ?_
    refine gw_sipush (v := 400) CX.1 dDesk_days_19 (by decide) ?_
    refine gw_icmp_le (tgt := 28) CX.1 dDesk_days_22 (by decide) (fun c => ?_) (fun c => ?_)
    · replace H := H.1 c
      refine gw_aload_n CX.1 0 rfl dDesk_days_28 rfl ?_
      refine gg_Desk_19 CX.1 rfl dDesk_days_29 ?_
      refine gw_iload_n CX.1 1 rfl dDesk_days_32 rfl ?_
      refine cl_Company_passDays CX (Nat.le_of_ble_eq_true rfl) wm_Desk_169 dDesk_days_33 H (fun F3 G3 H => ?_)
      refine gw_aload_n CX.1 0 rfl dDesk_days_36 rfl ?_
      refine gg_Desk_28 CX.1 rfl dDesk_days_37 ?_
      refine cl_Night_clear CX (Nat.le_of_ble_eq_true rfl) wm_Desk_173 dDesk_days_40 H (fun F4 G4 H => ?_)
      refine gw_aload_n CX.1 0 rfl dDesk_days_43 rfl ?_
      refine gg_Desk_19 CX.1 rfl dDesk_days_44 ?_
      refine cl_Company_today CX (Nat.le_of_ble_eq_true rfl) wm_Desk_166 dDesk_days_47 H (fun x5_ F5 G5 H => ?_)
      exact gw_iret CX rfl rfl ⟨_, _, _, rfl, rfl, H⟩ (Nat.zero_le _) (Nat.zero_le _) dDesk_days_50
    · replace H := H.2 c
      refine gw_ldc CX.1 wc_Desk_61 dDesk_days_25 ?_
      exact gw_iret CX rfl rfl ⟨_, _, _, rfl, rfl, H⟩ (Nat.zero_le _) (Nat.zero_le _) dDesk_days_27
theorem eDesk_out {D : va_G} {d : Nat} {Q : Int32 → (Nat → Nat → Int32) → (Nat → Int64) → Prop} {F : Nat → Nat → Int32} {G : Nat → Int64} {a0 : Int32} {a1 : Int32} (H : AMi D d nCompany_isPerson [.ref 8, .int a0] F G (fun x1_ F1 G1 => ((x1_ = 0 → Q (-1000000001) F1 G1) ∧ (¬ (x1_ = 0) → AMi D d nDesk_isWithin [.int a1, .int 0, .int 30] F1 G1 (fun x2_ F2 G2 => ((¬ x2_ = 0 → AMi D d nCompany_outFrom [.ref 8, .int a0] F2 G2 (fun x3_ F3 G3 => AMv D d nCompany_setOutFrom [.ref 8, .int a0, .int a1] F3 G3 (fun F4 G4 => Q x3_ F4 G4))) ∧ (x2_ = 0 → Q (-1000000001) F2 G2))))))) : AMi D (d + 1) nDesk_out [.ref 1, .int a0, .int a1] F G Q := by
  refine AM_intro (by decide) (Nat.le_of_ble_eq_true rfl) ?_
  intro X CX
  refine gw_aload_n CX.1 0 rfl dDesk_out_0 rfl ?_
  refine gg_Desk_19 CX.1 rfl dDesk_out_1 ?_
  refine gw_iload_n CX.1 1 rfl dDesk_out_4 rfl ?_
  refine cl_Company_isPerson CX (Nat.le_of_ble_eq_true rfl) wm_Desk_122 dDesk_out_5 H (fun x1_ F1 G1 H => ?_)
  refine gw_if_eq (tgt := 21) CX.1 dDesk_out_8 (by decide) (fun c => ?_) (fun c => ?_)
  · replace H := H.1 c
    refine gw_ldc CX.1 wc_Desk_61 dDesk_out_21 ?_
    exact gw_iret CX rfl rfl ⟨_, _, _, rfl, rfl, H⟩ (Nat.zero_le _) (Nat.zero_le _) dDesk_out_23
  · replace H := H.2 c
    refine gw_iload_n CX.1 2 rfl dDesk_out_11 rfl ?_
    refine gw_iconst (v := 0) CX.1 dDesk_out_12 (by decide) ?_
    refine gw_bipush (v := 30) CX.1 dDesk_out_13 (by decide) ?_
    refine cl_Desk_isWithin CX (Nat.le_of_ble_eq_true rfl) wm_Desk_53 dDesk_out_15 H (fun x2_ F2 G2 H => ?_)
    refine gw_if_ne (tgt := 24) CX.1 dDesk_out_18 (by decide) (fun c => ?_) (fun c => ?_)
    · replace H := H.1 c
      refine gw_aload_n CX.1 0 rfl dDesk_out_24 rfl ?_
      refine gg_Desk_19 CX.1 rfl dDesk_out_25 ?_
      refine gw_iload_n CX.1 1 rfl dDesk_out_28 rfl ?_
      refine cl_Company_outFrom CX (Nat.le_of_ble_eq_true rfl) wm_Desk_176 dDesk_out_29 H (fun x3_ F3 G3 H => ?_)
      refine gw_istore_n CX.1 dDesk_out_32 rfl (by decide) rfl ?_
      refine gw_aload_n CX.1 1 rfl dDesk_out_33 rfl ?_
      refine gg_Desk_19 CX.1 rfl dDesk_out_34 ?_
      refine gw_iload_n CX.1 2 rfl dDesk_out_37 rfl ?_
      refine gw_iload_n CX.1 3 rfl dDesk_out_38 rfl ?_
      refine cl_Company_setOutFrom CX (Nat.le_of_ble_eq_true rfl) wm_Desk_179 dDesk_out_39 H (fun F4 G4 H => ?_)
      refine gw_iload_n CX.1 0 rfl dDesk_out_42 rfl ?_
      exact gw_iret CX rfl rfl ⟨_, _, _, rfl, rfl, H⟩ (Nat.zero_le _) (Nat.zero_le _) dDesk_out_43
    · replace H := H.2 c
      refine gw_ldc CX.1 wc_Desk_61 dDesk_out_21 ?_
      exact gw_iret CX rfl rfl ⟨_, _, _, rfl, rfl, H⟩ (Nat.zero_le _) (Nat.zero_le _) dDesk_out_23
theorem eDesk_cast {D : va_G} {d : Nat} {Q : Int32 → (Nat → Nat → Int32) → (Nat → Int64) → Prop} {F : Nat → Nat → Int32} {G : Nat → Int64} {a0 : Int32} (H : AMi D d nDesk_isWithin [.int a0, .int 1, .int 30000] F G (fun x1_ F1 G1 => ((¬ x1_ = 0 → AMi D d nCastSearch_leastLoss [.ref 19, .int a0] F1 G1 (fun x2_ F2 G2 => ((x2_ = (-1000000004) → Q x2_ F2 G2) ∧ (¬ (x2_ = (-1000000004)) → AMv D d nNight_begin [.ref 16, .ref 19] F2 G2 (fun F3 G3 => Q x2_ F3 G3))))) ∧ (x1_ = 0 → Q (-1000000001) F1 G1)))) : AMi D (d + 1) nDesk_cast [.ref 1, .int a0] F G Q := by
  refine AM_intro (by decide) (Nat.le_of_ble_eq_true rfl) ?_
  intro X CX
  refine gw_iload_n CX.1 1 rfl dDesk_cast_0 rfl ?_
  refine gw_iconst (v := 1) CX.1 dDesk_cast_1 (by decide) ?_
  refine gw_sipush (v := 30000) CX.1 dDesk_cast_2 (by decide) ?_
  refine cl_Desk_isWithin CX (Nat.le_of_ble_eq_true rfl) wm_Desk_53 dDesk_cast_5 H (fun x1_ F1 G1 H => ?_)
  refine gw_if_ne (tgt := 14) CX.1 dDesk_cast_8 (by decide) (fun c => ?_) (fun c => ?_)
  · replace H := H.1 c
    refine gw_aload_n CX.1 0 rfl dDesk_cast_14 rfl ?_
    refine gg_Desk_35 CX.1 rfl dDesk_cast_15 ?_
    refine gw_iload_n CX.1 1 rfl dDesk_cast_18 rfl ?_
    refine cl_CastSearch_leastLoss CX (Nat.le_of_ble_eq_true rfl) wm_Desk_182 dDesk_cast_19 H (fun x2_ F2 G2 H => ?_)
    refine gw_istore_n CX.1 dDesk_cast_22 rfl (by decide) rfl ?_
    refine gw_iload_n CX.1 0 rfl dDesk_cast_23 rfl ?_
    refine gw_ldc CX.1 wc_Desk_185 dDesk_cast_24 ?_
    refine gw_icmp_eq (tgt := 40) CX.1 dDesk_cast_26 (by decide) (fun c => ?_) (fun c => ?_)
    · replace H := H.1 c
      refine gw_iload_n CX.1 0 rfl dDesk_cast_40 rfl ?_
      exact gw_iret CX rfl rfl ⟨_, _, _, rfl, rfl, H⟩ (Nat.zero_le _) (Nat.zero_le _) dDesk_cast_41
    · replace H := H.2 c
      refine gw_aload_n CX.1 1 rfl dDesk_cast_29 rfl ?_
      refine gg_Desk_28 CX.1 rfl dDesk_cast_30 ?_
      refine gw_aload_n CX.1 1 rfl dDesk_cast_33 rfl ?_
      refine gg_Desk_35 CX.1 rfl dDesk_cast_34 ?_
      refine cl_Night_begin CX (Nat.le_of_ble_eq_true rfl) wm_Desk_186 dDesk_cast_37 H (fun F3 G3 H => ?_)
      refine gw_iload_n CX.1 0 rfl dDesk_cast_40 rfl ?_
      exact gw_iret CX rfl rfl ⟨_, _, _, rfl, rfl, H⟩ (Nat.zero_le _) (Nat.zero_le _) dDesk_cast_41
  · replace H := H.2 c
    refine gw_ldc CX.1 wc_Desk_61 dDesk_cast_11 ?_
    exact gw_iret CX rfl rfl ⟨_, _, _, rfl, rfl, H⟩ (Nat.zero_le _) (Nat.zero_le _) dDesk_cast_13
theorem eDesk_has {D : va_G} {d : Nat} {Q : Int32 → (Nat → Nat → Int32) → (Nat → Int64) → Prop} {F : Nat → Nat → Int32} {G : Nat → Int64} {a0 : Int32} (H : AMi D d nShow_isTrack [.ref 2, .int a0] F G (fun x1_ F1 G1 => ((x1_ = 0 → Q (-1000000001) F1 G1) ∧ (¬ (x1_ = 0) → AMi D d nNight_castAt [.ref 16, .int a0] F1 G1 (fun x2_ F2 G2 => Q x2_ F2 G2))))) : AMi D (d + 1) nDesk_has [.ref 1, .int a0] F G Q := by
  refine AM_intro (by decide) (Nat.le_of_ble_eq_true rfl) ?_
  intro X CX
  refine gw_aload_n CX.1 0 rfl dDesk_has_0 rfl ?_
  refine gg_Desk_10 CX.1 rfl dDesk_has_1 ?_
  refine gw_iload_n CX.1 1 rfl dDesk_has_4 rfl ?_
  refine cl_Show_isTrack CX (Nat.le_of_ble_eq_true rfl) wm_Desk_63 dDesk_has_5 H (fun x1_ F1 G1 H => ?_)
  refine gw_if_eq (tgt := 22) CX.1 dDesk_has_8 (by decide) (fun c => ?_) (fun c => ?_)
  · replace H := H.1 c
    refine gw_ldc CX.1 wc_Desk_61 dDesk_has_22 ?_
    exact gw_iret CX rfl rfl ⟨_, _, _, rfl, rfl, H⟩ (Nat.zero_le _) (Nat.zero_le _) dDesk_has_24
  · replace H := H.2 c
    refine gw_aload_n CX.1 0 rfl dDesk_has_11 rfl ?_
    refine gg_Desk_28 CX.1 rfl dDesk_has_12 ?_
    refine gw_iload_n CX.1 1 rfl dDesk_has_15 rfl ?_
    refine cl_Night_castAt CX (Nat.le_of_ble_eq_true rfl) wm_Desk_190 dDesk_has_16 H (fun x2_ F2 G2 H => ?_)
    refine gw_goto (tgt := 24) CX.1 dDesk_has_19 (by decide) ?_
    exact gw_iret CX rfl rfl ⟨_, _, _, rfl, rfl, H⟩ (Nat.zero_le _) (Nat.zero_le _) dDesk_has_24
theorem eDesk_who {D : va_G} {d : Nat} {Q : Int32 → (Nat → Nat → Int32) → (Nat → Int64) → Prop} {F : Nat → Nat → Int32} {G : Nat → Int64} {a0 : Int32} (H : AMi D d nDesk_isCue [.int a0] F G (fun x1_ F1 G1 => ((¬ x1_ = 0 → AMi D d nNight_hasCast [.ref 16] F1 G1 (fun x2_ F2 G2 => ((x2_ = 0 → Q (-1000000002) F2 G2) ∧ (¬ (x2_ = 0) → AMi D d nNight_holdersIn [.ref 16, .int a0] F2 G2 (fun x3_ F3 G3 => Q x3_ F3 G3))))) ∧ (x1_ = 0 → Q (-1000000001) F1 G1)))) : AMi D (d + 1) nDesk_who [.ref 1, .int a0] F G Q := by
  refine AM_intro (by decide) (Nat.le_of_ble_eq_true rfl) ?_
  intro X CX
  refine gw_iload_n CX.1 1 rfl dDesk_who_0 rfl ?_
  refine cl_Desk_isCue CX (Nat.le_of_ble_eq_true rfl) wm_Desk_67 dDesk_who_1 H (fun x1_ F1 G1 H => ?_)
  refine gw_if_ne (tgt := 10) CX.1 dDesk_who_4 (by decide) (fun c => ?_) (fun c => ?_)
  · replace H := H.1 c
    refine gw_aload_n CX.1 0 rfl dDesk_who_10 rfl ?_
    refine gg_Desk_28 CX.1 rfl dDesk_who_11 ?_
    refine cl_Night_hasCast CX (Nat.le_of_ble_eq_true rfl) wm_Desk_193 dDesk_who_14 H (fun x2_ F2 G2 H => ?_)
    refine gw_if_eq (tgt := 31) CX.1 dDesk_who_17 (by decide) (fun c => ?_) (fun c => ?_)
    · replace H := H.1 c
      refine gw_ldc CX.1 wc_Desk_92 dDesk_who_31 ?_
      exact gw_iret CX rfl rfl ⟨_, _, _, rfl, rfl, H⟩ (Nat.zero_le _) (Nat.zero_le _) dDesk_who_33
    · replace H := H.2 c
      refine gw_aload_n CX.1 0 rfl dDesk_who_20 rfl ?_
      refine gg_Desk_28 CX.1 rfl dDesk_who_21 ?_
      refine gw_iload_n CX.1 1 rfl dDesk_who_24 rfl ?_
      refine cl_Night_holdersIn CX (Nat.le_of_ble_eq_true rfl) wm_Desk_196 dDesk_who_25 H (fun x3_ F3 G3 H => ?_)
      refine gw_goto (tgt := 33) CX.1 dDesk_who_28 (by decide) ?_
      exact gw_iret CX rfl rfl ⟨_, _, _, rfl, rfl, H⟩ (Nat.zero_le _) (Nat.zero_le _) dDesk_who_33
  · replace H := H.2 c
    refine gw_ldc CX.1 wc_Desk_61 dDesk_who_7 ?_
    exact gw_iret CX rfl rfl ⟨_, _, _, rfl, rfl, H⟩ (Nat.zero_le _) (Nat.zero_le _) dDesk_who_9
theorem eDesk_done {D : va_G} {d : Nat} {Q : Int32 → (Nat → Nat → Int32) → (Nat → Int64) → Prop} {F : Nat → Nat → Int32} {G : Nat → Int64} {a0 : Int32} (H : AMi D d nDesk_isCue [.int a0] F G (fun x1_ F1 G1 => ((¬ x1_ = 0 → AMi D d nShow_hasLift [.ref 2, .int a0] F1 G1 (fun x2_ F2 G2 => ((¬ x2_ = 0 → AMi D d nNight_hasCast [.ref 16] F2 G2 (fun x3_ F3 G3 => ((¬ x3_ = 0 → AMi D d nNight_isLiftDone [.ref 16, .int a0] F3 G3 (fun x4_ F4 G4 => ((x4_ = 0 → Q 0 F4 G4) ∧ (¬ (x4_ = 0) → Q 1 F4 G4)))) ∧ (x3_ = 0 → Q (-1000000002) F3 G3)))) ∧ (x2_ = 0 → Q (-1000000005) F2 G2)))) ∧ (x1_ = 0 → Q (-1000000001) F1 G1)))) : AMi D (d + 1) nDesk_done [.ref 1, .int a0] F G Q := by
  refine AM_intro (by decide) (Nat.le_of_ble_eq_true rfl) ?_
  intro X CX
  refine gw_iload_n CX.1 1 rfl dDesk_done_0 rfl ?_
  refine cl_Desk_isCue CX (Nat.le_of_ble_eq_true rfl) wm_Desk_67 dDesk_done_1 H (fun x1_ F1 G1 H => ?_)
  refine gw_if_ne (tgt := 10) CX.1 dDesk_done_4 (by decide) (fun c => ?_) (fun c => ?_)
  · replace H := H.1 c
    refine gw_aload_n CX.1 0 rfl dDesk_done_10 rfl ?_
    refine gg_Desk_10 CX.1 rfl dDesk_done_11 ?_
    refine gw_iload_n CX.1 1 rfl dDesk_done_14 rfl ?_
    refine cl_Show_hasLift CX (Nat.le_of_ble_eq_true rfl) wm_Desk_81 dDesk_done_15 H (fun x2_ F2 G2 H => ?_)
    refine gw_if_ne (tgt := 24) CX.1 dDesk_done_18 (by decide) (fun c => ?_) (fun c => ?_)
    · replace H := H.1 c
      refine gw_aload_n CX.1 0 rfl dDesk_done_24 rfl ?_
      refine gg_Desk_28 CX.1 rfl dDesk_done_25 ?_
      refine cl_Night_hasCast CX (Nat.le_of_ble_eq_true rfl) wm_Desk_193 dDesk_done_28 H (fun x3_ F3 G3 H => ?_)
      refine gw_if_ne (tgt := 37) CX.1 dDesk_done_31 (by decide) (fun c => ?_) (fun c => ?_)
      · replace H := H.1 c
        refine gw_aload_n CX.1 0 rfl dDesk_done_37 rfl ?_
        refine gg_Desk_28 CX.1 rfl dDesk_done_38 ?_
        refine gw_iload_n CX.1 1 rfl dDesk_done_41 rfl ?_
        refine cl_Night_isLiftDone CX (Nat.le_of_ble_eq_true rfl) wm_Desk_199 dDesk_done_42 H (fun x4_ F4 G4 H => ?_)
        refine gw_if_eq (tgt := 52) CX.1 dDesk_done_45 (by decide) (fun c => ?_) (fun c => ?_)
        · replace H := H.1 c
          refine gw_iconst (v := 0) CX.1 dDesk_done_52 (by decide) ?_
          exact gw_iret CX rfl rfl ⟨_, _, _, rfl, rfl, H⟩ (Nat.zero_le _) (Nat.zero_le _) dDesk_done_53
        · replace H := H.2 c
          refine gw_iconst (v := 1) CX.1 dDesk_done_48 (by decide) ?_
          refine gw_goto (tgt := 53) CX.1 dDesk_done_49 (by decide) ?_
          exact gw_iret CX rfl rfl ⟨_, _, _, rfl, rfl, H⟩ (Nat.zero_le _) (Nat.zero_le _) dDesk_done_53
      · replace H := H.2 c
        refine gw_ldc CX.1 wc_Desk_92 dDesk_done_34 ?_
        exact gw_iret CX rfl rfl ⟨_, _, _, rfl, rfl, H⟩ (Nat.zero_le _) (Nat.zero_le _) dDesk_done_36
    · replace H := H.2 c
      refine gw_ldc CX.1 wc_Desk_62 dDesk_done_21 ?_
      exact gw_iret CX rfl rfl ⟨_, _, _, rfl, rfl, H⟩ (Nat.zero_le _) (Nat.zero_le _) dDesk_done_23
  · replace H := H.2 c
    refine gw_ldc CX.1 wc_Desk_61 dDesk_done_7 ?_
    exact gw_iret CX rfl rfl ⟨_, _, _, rfl, rfl, H⟩ (Nat.zero_le _) (Nat.zero_le _) dDesk_done_9
theorem eDesk_hurt {D : va_G} {d : Nat} {Q : Int32 → (Nat → Nat → Int32) → (Nat → Int64) → Prop} {F : Nat → Nat → Int32} {G : Nat → Int64} {a0 : Int32} {a1 : Int32} (H : AMi D d nCompany_isPerson [.ref 8, .int a0] F G (fun x1_ F1 G1 => ((x1_ = 0 → Q (-1000000001) F1 G1) ∧ (¬ (x1_ = 0) → AMi D d nDesk_isCue [.int a1] F1 G1 (fun x2_ F2 G2 => ((¬ x2_ = 0 → AMi D d nNight_hasCast [.ref 16] F2 G2 (fun x3_ F3 G3 => ((¬ x3_ = 0 → AMv D d nCompany_setOutFrom [.ref 8, .int a0, .int a1] F3 G3 (fun F4 G4 => AMi D d nNight_replace [.ref 16, .int a0, .int a1] F4 G4 (fun x5_ F5 G5 => Q x5_ F5 G5))) ∧ (x3_ = 0 → Q (-1000000002) F3 G3)))) ∧ (x2_ = 0 → Q (-1000000001) F2 G2))))))) : AMi D (d + 1) nDesk_hurt [.ref 1, .int a0, .int a1] F G Q := by
  refine AM_intro (by decide) (Nat.le_of_ble_eq_true rfl) ?_
  intro X CX
  refine gw_aload_n CX.1 0 rfl dDesk_hurt_0 rfl ?_
  refine gg_Desk_19 CX.1 rfl dDesk_hurt_1 ?_
  refine gw_iload_n CX.1 1 rfl dDesk_hurt_4 rfl ?_
  refine cl_Company_isPerson CX (Nat.le_of_ble_eq_true rfl) wm_Desk_122 dDesk_hurt_5 H (fun x1_ F1 G1 H => ?_)
  refine gw_if_eq (tgt := 18) CX.1 dDesk_hurt_8 (by decide) (fun c => ?_) (fun c => ?_)
  · replace H := H.1 c
    refine gw_ldc CX.1 wc_Desk_61 dDesk_hurt_18 ?_
    exact gw_iret CX rfl rfl ⟨_, _, _, rfl, rfl, H⟩ (Nat.zero_le _) (Nat.zero_le _) dDesk_hurt_20
  · replace H := H.2 c
    refine gw_iload_n CX.1 2 rfl dDesk_hurt_11 rfl ?_
    refine cl_Desk_isCue CX (Nat.le_of_ble_eq_true rfl) wm_Desk_67 dDesk_hurt_12 H (fun x2_ F2 G2 H => ?_)
    refine gw_if_ne (tgt := 21) CX.1 dDesk_hurt_15 (by decide) (fun c => ?_) (fun c => ?_)
    · replace H := H.1 c
      refine gw_aload_n CX.1 0 rfl dDesk_hurt_21 rfl ?_
      refine gg_Desk_28 CX.1 rfl dDesk_hurt_22 ?_
      refine cl_Night_hasCast CX (Nat.le_of_ble_eq_true rfl) wm_Desk_193 dDesk_hurt_25 H (fun x3_ F3 G3 H => ?_)
      refine gw_if_ne (tgt := 34) CX.1 dDesk_hurt_28 (by decide) (fun c => ?_) (fun c => ?_)
      · replace H := H.1 c
        refine gw_aload_n CX.1 0 rfl dDesk_hurt_34 rfl ?_
        refine gg_Desk_19 CX.1 rfl dDesk_hurt_35 ?_
        refine gw_iload_n CX.1 1 rfl dDesk_hurt_38 rfl ?_
        refine gw_iload_n CX.1 2 rfl dDesk_hurt_39 rfl ?_
        refine cl_Company_setOutFrom CX (Nat.le_of_ble_eq_true rfl) wm_Desk_179 dDesk_hurt_40 H (fun F4 G4 H => ?_)
        refine gw_aload_n CX.1 0 rfl dDesk_hurt_43 rfl ?_
        refine gg_Desk_28 CX.1 rfl dDesk_hurt_44 ?_
        refine gw_iload_n CX.1 1 rfl dDesk_hurt_47 rfl ?_
        refine gw_iload_n CX.1 2 rfl dDesk_hurt_48 rfl ?_
        refine cl_Night_replace CX (Nat.le_of_ble_eq_true rfl) wm_Desk_202 dDesk_hurt_49 H (fun x5_ F5 G5 H => ?_)
        exact gw_iret CX rfl rfl ⟨_, _, _, rfl, rfl, H⟩ (Nat.zero_le _) (Nat.zero_le _) dDesk_hurt_52
      · replace H := H.2 c
        refine gw_ldc CX.1 wc_Desk_92 dDesk_hurt_31 ?_
        exact gw_iret CX rfl rfl ⟨_, _, _, rfl, rfl, H⟩ (Nat.zero_le _) (Nat.zero_le _) dDesk_hurt_33
    · replace H := H.2 c
      refine gw_ldc CX.1 wc_Desk_61 dDesk_hurt_18 ?_
      exact gw_iret CX rfl rfl ⟨_, _, _, rfl, rfl, H⟩ (Nat.zero_le _) (Nat.zero_le _) dDesk_hurt_20
theorem eDesk_at {D : va_G} {d : Nat} {Q : Int32 → (Nat → Nat → Int32) → (Nat → Int64) → Prop} {F : Nat → Nat → Int32} {G : Nat → Int64} {a0 : Int32} {a1 : Int32} (H : AMi D d nShow_isTrack [.ref 2, .int a0] F G (fun x1_ F1 G1 => ((x1_ = 0 → Q (-1000000001) F1 G1) ∧ (¬ (x1_ = 0) → AMi D d nDesk_isCue [.int a1] F1 G1 (fun x2_ F2 G2 => ((¬ x2_ = 0 → AMi D d nNight_hasCast [.ref 16] F2 G2 (fun x3_ F3 G3 => ((x3_ = 0 → Q (-1000000002) F3 G3) ∧ (¬ (x3_ = 0) → AMi D d nNight_holderAt [.ref 16, .int a0, .int a1] F3 G3 (fun x4_ F4 G4 => Q x4_ F4 G4))))) ∧ (x2_ = 0 → Q (-1000000001) F2 G2))))))) : AMi D (d + 1) nDesk_at [.ref 1, .int a0, .int a1] F G Q := by
  refine AM_intro (by decide) (Nat.le_of_ble_eq_true rfl) ?_
  intro X CX
  refine gw_aload_n CX.1 0 rfl dDesk_at_0 rfl ?_
  refine gg_Desk_10 CX.1 rfl dDesk_at_1 ?_
  refine gw_iload_n CX.1 1 rfl dDesk_at_4 rfl ?_
  refine cl_Show_isTrack CX (Nat.le_of_ble_eq_true rfl) wm_Desk_63 dDesk_at_5 H (fun x1_ F1 G1 H => ?_)
  refine gw_if_eq (tgt := 18) CX.1 dDesk_at_8 (by decide) (fun c => ?_) (fun c => ?_)
  · replace H := H.1 c
    refine gw_ldc CX.1 wc_Desk_61 dDesk_at_18 ?_
    exact gw_iret CX rfl rfl ⟨_, _, _, rfl, rfl, H⟩ (Nat.zero_le _) (Nat.zero_le _) dDesk_at_20
  · replace H := H.2 c
    refine gw_iload_n CX.1 2 rfl dDesk_at_11 rfl ?_
    refine cl_Desk_isCue CX (Nat.le_of_ble_eq_true rfl) wm_Desk_67 dDesk_at_12 H (fun x2_ F2 G2 H => ?_)
    refine gw_if_ne (tgt := 21) CX.1 dDesk_at_15 (by decide) (fun c => ?_) (fun c => ?_)
    · replace H := H.1 c
      refine gw_aload_n CX.1 0 rfl dDesk_at_21 rfl ?_
      refine gg_Desk_28 CX.1 rfl dDesk_at_22 ?_
      refine cl_Night_hasCast CX (Nat.le_of_ble_eq_true rfl) wm_Desk_193 dDesk_at_25 H (fun x3_ F3 G3 H => ?_)
      refine gw_if_eq (tgt := 43) CX.1 dDesk_at_28 (by decide) (fun c => ?_) (fun c => ?_)
      · replace H := H.1 c
        refine gw_ldc CX.1 wc_Desk_92 dDesk_at_43 ?_
        exact gw_iret CX rfl rfl ⟨_, _, _, rfl, rfl, H⟩ (Nat.zero_le _) (Nat.zero_le _) dDesk_at_45
      · replace H := H.2 c
        refine gw_aload_n CX.1 0 rfl dDesk_at_31 rfl ?_
        refine gg_Desk_28 CX.1 rfl dDesk_at_32 ?_
        refine gw_iload_n CX.1 1 rfl dDesk_at_35 rfl ?_
        refine gw_iload_n CX.1 2 rfl dDesk_at_36 rfl ?_
        refine cl_Night_holderAt CX (Nat.le_of_ble_eq_true rfl) wm_Desk_205 dDesk_at_37 H (fun x4_ F4 G4 H => ?_)
        refine gw_goto (tgt := 45) CX.1 dDesk_at_40 (by decide) ?_
        exact gw_iret CX rfl rfl ⟨_, _, _, rfl, rfl, H⟩ (Nat.zero_le _) (Nat.zero_le _) dDesk_at_45
    · replace H := H.2 c
      refine gw_ldc CX.1 wc_Desk_61 dDesk_at_18 ?_
      exact gw_iret CX rfl rfl ⟨_, _, _, rfl, rfl, H⟩ (Nat.zero_le _) (Nat.zero_le _) dDesk_at_20
theorem eDesk_plan {D : va_G} {d : Nat} {Q : Int32 → (Nat → Nat → Int32) → (Nat → Int64) → Prop} {F : Nat → Nat → Int32} {G : Nat → Int64} (H : AMi D d nPutIns_find [.ref 29] F G (fun x1_ F1 G1 => ((x1_ = 0 → Q (-1000000002) F1 G1) ∧ (¬ (x1_ = 0) → AMi D d nPutIns_hours [.ref 29] F1 G1 (fun x2_ F2 G2 => Q x2_ F2 G2))))) : AMi D (d + 1) nDesk_plan [.ref 1] F G Q := by
  refine AM_intro (by decide) (Nat.le_of_ble_eq_true rfl) ?_
  intro X CX
  refine gw_aload_n CX.1 0 rfl dDesk_plan_0 rfl ?_
  refine gg_Desk_42 CX.1 rfl dDesk_plan_1 ?_
  refine cl_PutIns_find CX (Nat.le_of_ble_eq_true rfl) wm_Desk_208 dDesk_plan_4 H (fun x1_ F1 G1 H => ?_)
  refine gw_if_eq (tgt := 20) CX.1 dDesk_plan_7 (by decide) (fun c => ?_) (fun c => ?_)
  · replace H := H.1 c
    refine gw_ldc CX.1 wc_Desk_92 dDesk_plan_20 ?_
    exact gw_iret CX rfl rfl ⟨_, _, _, rfl, rfl, H⟩ (Nat.zero_le _) (Nat.zero_le _) dDesk_plan_22
  · replace H := H.2 c
    refine gw_aload_n CX.1 0 rfl dDesk_plan_10 rfl ?_
    refine gg_Desk_42 CX.1 rfl dDesk_plan_11 ?_
    refine cl_PutIns_hours CX (Nat.le_of_ble_eq_true rfl) wm_Desk_211 dDesk_plan_14 H (fun x2_ F2 G2 H => ?_)
    refine gw_goto (tgt := 22) CX.1 dDesk_plan_17 (by decide) ?_
    exact gw_iret CX rfl rfl ⟨_, _, _, rfl, rfl, H⟩ (Nat.zero_le _) (Nat.zero_le _) dDesk_plan_22
theorem eDesk_putIn {D : va_G} {d : Nat} {Q : Int32 → (Nat → Nat → Int32) → (Nat → Int64) → Prop} {F : Nat → Nat → Int32} {G : Nat → Int64} {a0 : Int32} (H : AMi D d nCompany_isPerson [.ref 8, .int a0] F G (fun x1_ F1 G1 => ((¬ x1_ = 0 → AMi D d nPutIns_find [.ref 29] F1 G1 (fun x2_ F2 G2 => ((x2_ = 0 → Q (-1000000002) F2 G2) ∧ (¬ (x2_ = 0) → AMi D d nPutIns_trackOf [.ref 29, .int a0] F2 G2 (fun x3_ F3 G3 => Q x3_ F3 G3))))) ∧ (x1_ = 0 → Q (-1000000001) F1 G1)))) : AMi D (d + 1) nDesk_putIn [.ref 1, .int a0] F G Q := by
  refine AM_intro (by decide) (Nat.le_of_ble_eq_true rfl) ?_
  intro X CX
  refine gw_aload_n CX.1 0 rfl dDesk_putIn_0 rfl ?_
  refine gg_Desk_19 CX.1 rfl dDesk_putIn_1 ?_
  refine gw_iload_n CX.1 1 rfl dDesk_putIn_4 rfl ?_
  refine cl_Company_isPerson CX (Nat.le_of_ble_eq_true rfl) wm_Desk_122 dDesk_putIn_5 H (fun x1_ F1 G1 H => ?_)
  refine gw_if_ne (tgt := 14) CX.1 dDesk_putIn_8 (by decide) (fun c => ?_) (fun c => ?_)
  · replace H := H.1 c
    refine gw_aload_n CX.1 0 rfl dDesk_putIn_14 rfl ?_
    refine gg_Desk_42 CX.1 rfl dDesk_putIn_15 ?_
    refine cl_PutIns_find CX (Nat.le_of_ble_eq_true rfl) wm_Desk_208 dDesk_putIn_18 H (fun x2_ F2 G2 H => ?_)
    refine gw_if_eq (tgt := 35) CX.1 dDesk_putIn_21 (by decide) (fun c => ?_) (fun c => ?_)
    · replace H := H.1 c
      refine gw_ldc CX.1 wc_Desk_92 dDesk_putIn_35 ?_
      exact gw_iret CX rfl rfl ⟨_, _, _, rfl, rfl, H⟩ (Nat.zero_le _) (Nat.zero_le _) dDesk_putIn_37
    · replace H := H.2 c
      refine gw_aload_n CX.1 0 rfl dDesk_putIn_24 rfl ?_
      refine gg_Desk_42 CX.1 rfl dDesk_putIn_25 ?_
      refine gw_iload_n CX.1 1 rfl dDesk_putIn_28 rfl ?_
      refine cl_PutIns_trackOf CX (Nat.le_of_ble_eq_true rfl) wm_Desk_214 dDesk_putIn_29 H (fun x3_ F3 G3 H => ?_)
      refine gw_goto (tgt := 37) CX.1 dDesk_putIn_32 (by decide) ?_
      exact gw_iret CX rfl rfl ⟨_, _, _, rfl, rfl, H⟩ (Nat.zero_le _) (Nat.zero_le _) dDesk_putIn_37
  · replace H := H.2 c
    refine gw_ldc CX.1 wc_Desk_61 dDesk_putIn_11 ?_
    exact gw_iret CX rfl rfl ⟨_, _, _, rfl, rfl, H⟩ (Nat.zero_le _) (Nat.zero_le _) dDesk_putIn_13
theorem eDesk_sheet {D : va_G} {d : Nat} {Q : Int32 → (Nat → Nat → Int32) → (Nat → Int64) → Prop} {F : Nat → Nat → Int32} {G : Nat → Int64} {a0 : Int32} {a1 : Int32} (H : AMr D d nDesk_sheetOf [.ref 1, .int a0] F G (fun x1_ F1 G1 => (x1_ = .null ∨ x1_ = .ref 35 ∨ x1_ = .ref 37) ∧ ((x1_ = .null → Q (-1000000001) F1 G1) ∧ (x1_ = .ref 35 → ((a1 ≤ 30 → ((0 ≤ a1 → AMv D d nSheet_begin [.ref 35, .int a1] F1 G1 (fun F2 G2 => Q a1 F2 G2)) ∧ (¬ (0 ≤ a1) → Q (-1000000014) F1 G1))) ∧ (¬ (a1 ≤ 30) → Q (-1000000001) F1 G1))) ∧ (x1_ = .ref 37 → ((a1 ≤ 30 → ((0 ≤ a1 → AMv D d nSheet_begin [.ref 37, .int a1] F1 G1 (fun F3 G3 => Q a1 F3 G3)) ∧ (¬ (0 ≤ a1) → Q (-1000000014) F1 G1))) ∧ (¬ (a1 ≤ 30) → Q (-1000000001) F1 G1)))))) : AMi D (d + 1) nDesk_sheet [.ref 1, .int a0, .int a1] F G Q := by
  refine AM_intro (by decide) (Nat.le_of_ble_eq_true rfl) ?_
  intro X CX
  refine gw_aload_n CX.1 0 rfl dDesk_sheet_0 rfl ?_
  refine gw_iload_n CX.1 1 rfl dDesk_sheet_1 rfl ?_
  refine cl_Desk_sheetOf CX (Nat.le_of_ble_eq_true rfl) wm_Desk_93 dDesk_sheet_2 H (fun x1_ F1 G1 H => ?_)
  obtain ⟨e, H⟩ := H
  rcases e with e | e | e
  · replace H := H.1 e
    subst e
    refine gw_astore_nN CX.1 dDesk_sheet_5 rfl (by decide) rfl ?_
    refine gw_aload_nN CX.1 0 rfl dDesk_sheet_6 rfl ?_
    refine gw_ifnullN (tgt := 16) CX.1 dDesk_sheet_7 (by decide) ?_
    refine gw_ldc CX.1 wc_Desk_61 dDesk_sheet_16 ?_
    exact gw_iret CX rfl rfl ⟨_, _, _, rfl, rfl, H⟩ (Nat.zero_le _) (Nat.zero_le _) dDesk_sheet_18
  · replace H := H.2.1 e
    subst e
    refine gw_astore_n CX.1 dDesk_sheet_5 rfl (by decide) rfl ?_
    refine gw_aload_n CX.1 0 rfl dDesk_sheet_6 rfl ?_
    refine gw_ifnull CX.1 dDesk_sheet_7 ?_
    refine gw_iload_n CX.1 3 rfl dDesk_sheet_10 rfl ?_
    refine gw_bipush (v := 30) CX.1 dDesk_sheet_11 (by decide) ?_
    refine gw_icmp_le (tgt := 19) CX.1 dDesk_sheet_13 (by decide) (fun c => ?_) (fun c => ?_)
    · replace H := H.1 c
      refine gw_iload_n CX.1 3 rfl dDesk_sheet_19 rfl ?_
      refine gw_if_ge (tgt := 26) CX.1 dDesk_sheet_20 (by decide) (fun c => ?_) (fun c => ?_)
      · replace H := H.1 c
        refine gw_aload_n CX.1 0 rfl dDesk_sheet_26 rfl ?_
        refine gw_iload_n CX.1 3 rfl dDesk_sheet_27 rfl ?_
        refine cl_Sheet_begin_0 CX (Nat.le_of_ble_eq_true rfl) wm_Desk_218 dDesk_sheet_28 H (fun F2 G2 H => ?_)
        refine gw_iload_n CX.1 3 rfl dDesk_sheet_31 rfl ?_
        exact gw_iret CX rfl rfl ⟨_, _, _, rfl, rfl, H⟩ (Nat.zero_le _) (Nat.zero_le _) dDesk_sheet_32
      · replace H := H.2 c
        refine gw_ldc CX.1 wc_Desk_217 dDesk_sheet_23 ?_
        exact gw_iret CX rfl rfl ⟨_, _, _, rfl, rfl, H⟩ (Nat.zero_le _) (Nat.zero_le _) dDesk_sheet_25
    · replace H := H.2 c
      refine gw_ldc CX.1 wc_Desk_61 dDesk_sheet_16 ?_
      exact gw_iret CX rfl rfl ⟨_, _, _, rfl, rfl, H⟩ (Nat.zero_le _) (Nat.zero_le _) dDesk_sheet_18
  · replace H := H.2.2 e
    subst e
    refine gw_astore_n CX.1 dDesk_sheet_5 rfl (by decide) rfl ?_
    refine gw_aload_n CX.1 0 rfl dDesk_sheet_6 rfl ?_
    refine gw_ifnull CX.1 dDesk_sheet_7 ?_
    refine gw_iload_n CX.1 3 rfl dDesk_sheet_10 rfl ?_
    refine gw_bipush (v := 30) CX.1 dDesk_sheet_11 (by decide) ?_
    refine gw_icmp_le (tgt := 19) CX.1 dDesk_sheet_13 (by decide) (fun c => ?_) (fun c => ?_)
    · replace H := H.1 c
      refine gw_iload_n CX.1 3 rfl dDesk_sheet_19 rfl ?_
      refine gw_if_ge (tgt := 26) CX.1 dDesk_sheet_20 (by decide) (fun c => ?_) (fun c => ?_)
      · replace H := H.1 c
        refine gw_aload_n CX.1 0 rfl dDesk_sheet_26 rfl ?_
        refine gw_iload_n CX.1 3 rfl dDesk_sheet_27 rfl ?_
        refine cl_Sheet_begin_1 CX (Nat.le_of_ble_eq_true rfl) wm_Desk_218 dDesk_sheet_28 H (fun F3 G3 H => ?_)
        refine gw_iload_n CX.1 3 rfl dDesk_sheet_31 rfl ?_
        exact gw_iret CX rfl rfl ⟨_, _, _, rfl, rfl, H⟩ (Nat.zero_le _) (Nat.zero_le _) dDesk_sheet_32
      · replace H := H.2 c
        refine gw_ldc CX.1 wc_Desk_217 dDesk_sheet_23 ?_
        exact gw_iret CX rfl rfl ⟨_, _, _, rfl, rfl, H⟩ (Nat.zero_le _) (Nat.zero_le _) dDesk_sheet_25
    · replace H := H.2 c
      refine gw_ldc CX.1 wc_Desk_61 dDesk_sheet_16 ?_
      exact gw_iret CX rfl rfl ⟨_, _, _, rfl, rfl, H⟩ (Nat.zero_le _) (Nat.zero_le _) dDesk_sheet_18
theorem eDesk_mark {D : va_G} {d : Nat} {Q : Int32 → (Nat → Nat → Int32) → (Nat → Int64) → Prop} {F : Nat → Nat → Int32} {G : Nat → Int64} {a0 : Int32} {a1 : Int32} {a2 : Int32} (H : AMr D d nDesk_sheetOf [.ref 1, .int a0] F G (fun x1_ F1 G1 => (x1_ = .null ∨ x1_ = .ref 35 ∨ x1_ = .ref 37) ∧ ((x1_ = .null → Q (-1000000001) F1 G1) ∧ (x1_ = .ref 35 → AMi D d nSheet_isMissing [.ref 35] F1 G1 (fun x2_ F2 G2 => ((x2_ = 0 → AMi D d nSheet_hasRun [.ref 35, .int a1, .int 1] F2 G2 (fun x3_ F3 G3 => ((¬ x3_ = 0 → AMi D d nSheet_valueAt [.ref 35, .int a1] F3 G3 (fun x4_ F4 G4 => AMv D d nSheet_setValue [.ref 35, .int a1, .int (a2.toInt8.toInt32)] F4 G4 (fun F5 G5 => Q x4_ F5 G5))) ∧ (x3_ = 0 → Q (-1000000013) F3 G3)))) ∧ (¬ (x2_ = 0) → Q (-1000000011) F2 G2)))) ∧ (x1_ = .ref 37 → AMi D d nSheet_isMissing [.ref 37] F1 G1 (fun x6_ F6 G6 => ((x6_ = 0 → AMi D d nSheet_hasRun [.ref 37, .int a1, .int 1] F6 G6 (fun x7_ F7 G7 => ((¬ x7_ = 0 → AMi D d nSheet_valueAt [.ref 37, .int a1] F7 G7 (fun x8_ F8 G8 => AMv D d nSheet_setValue [.ref 37, .int a1, .int (a2.toInt8.toInt32)] F8 G8 (fun F9 G9 => Q x8_ F9 G9))) ∧ (x7_ = 0 → Q (-1000000013) F7 G7)))) ∧ (¬ (x6_ = 0) → Q (-1000000011) F6 G6))))))) : AMi D (d + 1) nDesk_mark [.ref 1, .int a0, .int a1, .int a2] F G Q := by
  refine AM_intro (by decide) (Nat.le_of_ble_eq_true rfl) ?_
  intro X CX
  refine gw_aload_n CX.1 0 rfl dDesk_mark_0 rfl ?_
  refine gw_iload_n CX.1 1 rfl dDesk_mark_1 rfl ?_
  refine cl_Desk_sheetOf CX (Nat.le_of_ble_eq_true rfl) wm_Desk_93 dDesk_mark_2 H (fun x1_ F1 G1 H => ?_)
  obtain ⟨e, H⟩ := H
  rcases e with e | e | e
  · replace H := H.1 e
    subst e
    refine gw_astoreN CX.1 dDesk_mark_5 (by decide) rfl ?_
    refine gw_aloadN CX.1 0 rfl dDesk_mark_7 ?_
    refine gw_ifnonnullN CX.1 dDesk_mark_9 ?_
    refine gw_ldc CX.1 wc_Desk_61 dDesk_mark_12 ?_
    exact gw_iret CX rfl rfl ⟨_, _, _, rfl, rfl, H⟩ (Nat.zero_le _) (Nat.zero_le _) dDesk_mark_14
  · replace H := H.2.1 e
    subst e
    refine gw_astore CX.1 dDesk_mark_5 (by decide) rfl ?_
    refine gw_aload CX.1 0 rfl dDesk_mark_7 ?_
    refine gw_ifnonnull (tgt := 15) CX.1 dDesk_mark_9 (by decide) ?_
    refine gw_aload CX.1 0 rfl dDesk_mark_15 ?_
    refine cl_Sheet_isMissing_0 CX (Nat.le_of_ble_eq_true rfl) wm_Desk_97 dDesk_mark_17 H (fun x2_ F2 G2 H => ?_)
    refine gw_if_eq (tgt := 26) CX.1 dDesk_mark_20 (by decide) (fun c => ?_) (fun c => ?_)
    · replace H := H.1 c
      refine gw_aload CX.1 0 rfl dDesk_mark_26 ?_
      refine gw_iload_n CX.1 3 rfl dDesk_mark_28 rfl ?_
      refine gw_iconst (v := 1) CX.1 dDesk_mark_29 (by decide) ?_
      refine cl_Sheet_hasRun_0 CX (Nat.le_of_ble_eq_true rfl) wm_Desk_220 dDesk_mark_30 H (fun x3_ F3 G3 H => ?_)
      refine gw_if_ne (tgt := 39) CX.1 dDesk_mark_33 (by decide) (fun c => ?_) (fun c => ?_)
      · replace H := H.1 c
        refine gw_aload CX.1 0 rfl dDesk_mark_39 ?_
        refine gw_iload_n CX.1 3 rfl dDesk_mark_41 rfl ?_
        refine cl_Sheet_valueAt_0 CX (Nat.le_of_ble_eq_true rfl) wm_Desk_107 dDesk_mark_42 H (fun x4_ F4 G4 H => ?_)
        refine gw_istore CX.1 dDesk_mark_45 (by decide) rfl ?_
        refine gw_aload CX.1 1 rfl dDesk_mark_47 ?_
        refine gw_iload_n CX.1 4 rfl dDesk_mark_49 rfl ?_
        refine gw_iload_n CX.1 5 rfl dDesk_mark_50 rfl ?_
        refine gw_i2b CX.1 dDesk_mark_51 ?_
        refine cl_Sheet_setValue_0 CX (Nat.le_of_ble_eq_true rfl) wm_Desk_223 dDesk_mark_52 H (fun F5 G5 H => ?_)
        refine gw_iload CX.1 0 rfl dDesk_mark_55 ?_
        exact gw_iret CX rfl rfl ⟨_, _, _, rfl, rfl, H⟩ (Nat.zero_le _) (Nat.zero_le _) dDesk_mark_57
      · replace H := H.2 c
        refine gw_ldc CX.1 wc_Desk_106 dDesk_mark_36 ?_
        exact gw_iret CX rfl rfl ⟨_, _, _, rfl, rfl, H⟩ (Nat.zero_le _) (Nat.zero_le _) dDesk_mark_38
    · replace H := H.2 c
      refine gw_ldc CX.1 wc_Desk_101 dDesk_mark_23 ?_
      exact gw_iret CX rfl rfl ⟨_, _, _, rfl, rfl, H⟩ (Nat.zero_le _) (Nat.zero_le _) dDesk_mark_25
  · replace H := H.2.2 e
    subst e
    refine gw_astore CX.1 dDesk_mark_5 (by decide) rfl ?_
    refine gw_aload CX.1 0 rfl dDesk_mark_7 ?_
    refine gw_ifnonnull (tgt := 15) CX.1 dDesk_mark_9 (by decide) ?_
    refine gw_aload CX.1 0 rfl dDesk_mark_15 ?_
    refine cl_Sheet_isMissing_1 CX (Nat.le_of_ble_eq_true rfl) wm_Desk_97 dDesk_mark_17 H (fun x6_ F6 G6 H => ?_)
    refine gw_if_eq (tgt := 26) CX.1 dDesk_mark_20 (by decide) (fun c => ?_) (fun c => ?_)
    · replace H := H.1 c
      refine gw_aload CX.1 0 rfl dDesk_mark_26 ?_
      refine gw_iload_n CX.1 3 rfl dDesk_mark_28 rfl ?_
      refine gw_iconst (v := 1) CX.1 dDesk_mark_29 (by decide) ?_
      refine cl_Sheet_hasRun_1 CX (Nat.le_of_ble_eq_true rfl) wm_Desk_220 dDesk_mark_30 H (fun x7_ F7 G7 H => ?_)
      refine gw_if_ne (tgt := 39) CX.1 dDesk_mark_33 (by decide) (fun c => ?_) (fun c => ?_)
      · replace H := H.1 c
        refine gw_aload CX.1 0 rfl dDesk_mark_39 ?_
        refine gw_iload_n CX.1 3 rfl dDesk_mark_41 rfl ?_
        refine cl_Sheet_valueAt_1 CX (Nat.le_of_ble_eq_true rfl) wm_Desk_107 dDesk_mark_42 H (fun x8_ F8 G8 H => ?_)
        refine gw_istore CX.1 dDesk_mark_45 (by decide) rfl ?_
        refine gw_aload CX.1 1 rfl dDesk_mark_47 ?_
        refine gw_iload_n CX.1 4 rfl dDesk_mark_49 rfl ?_
        refine gw_iload_n CX.1 5 rfl dDesk_mark_50 rfl ?_
        refine gw_i2b CX.1 dDesk_mark_51 ?_
        refine cl_Sheet_setValue_1 CX (Nat.le_of_ble_eq_true rfl) wm_Desk_223 dDesk_mark_52 H (fun F9 G9 H => ?_)
        refine gw_iload CX.1 0 rfl dDesk_mark_55 ?_
        exact gw_iret CX rfl rfl ⟨_, _, _, rfl, rfl, H⟩ (Nat.zero_le _) (Nat.zero_le _) dDesk_mark_57
      · replace H := H.2 c
        refine gw_ldc CX.1 wc_Desk_106 dDesk_mark_36 ?_
        exact gw_iret CX rfl rfl ⟨_, _, _, rfl, rfl, H⟩ (Nat.zero_le _) (Nat.zero_le _) dDesk_mark_38
    · replace H := H.2 c
      refine gw_ldc CX.1 wc_Desk_101 dDesk_mark_23 ?_
      exact gw_iret CX rfl rfl ⟨_, _, _, rfl, rfl, H⟩ (Nat.zero_le _) (Nat.zero_le _) dDesk_mark_25
theorem eDesk_copy {D : va_G} {d : Nat} {Q : Int32 → (Nat → Nat → Int32) → (Nat → Int64) → Prop} {F : Nat → Nat → Int32} {G : Nat → Int64} {a0 : Int32} {a1 : Int32} {a2 : Int32} {a3 : Int32} {a4 : Int32} (H : AMr D d nDesk_sheetOf [.ref 1, .int a0] F G (fun x1_ F1 G1 => (x1_ = .null ∨ x1_ = .ref 35 ∨ x1_ = .ref 37) ∧ ((x1_ = .null → AMr D d nDesk_sheetOf [.ref 1, .int a2] F1 G1 (fun x2_ F2 G2 => (x2_ = .null ∨ x2_ = .ref 35 ∨ x2_ = .ref 37) ∧ ((x2_ = .null → Q (-1000000001) F2 G2) ∧ (x2_ = .ref 35 → Q (-1000000001) F2 G2) ∧ (x2_ = .ref 37 → Q (-1000000001) F2 G2)))) ∧ (x1_ = .ref 35 → AMr D d nDesk_sheetOf [.ref 1, .int a2] F1 G1 (fun x3_ F3 G3 => (x3_ = .null ∨ x3_ = .ref 35 ∨ x3_ = .ref 37) ∧ ((x3_ = .null → Q (-1000000001) F3 G3) ∧ (x3_ = .ref 35 → AMi D d nSheet_isMissing [.ref 35] F3 G3 (fun x4_ F4 G4 => ((¬ x4_ = 0 → Q (-1000000011) F4 G4) ∧ (x4_ = 0 → AMi D d nSheet_isMissing [.ref 35] F4 G4 (fun x5_ F5 G5 => ((x5_ = 0 → AMi D d nSheet_hasRun [.ref 35, .int a1, .int a4] F5 G5 (fun x6_ F6 G6 => ((x6_ = 0 → Q (-1000000013) F6 G6) ∧ (¬ (x6_ = 0) → AMi D d nSheet_hasRun [.ref 35, .int a3, .int a4] F6 G6 (fun x7_ F7 G7 => ((¬ x7_ = 0 → AMv D d nSheet_take [.ref 35, .ref 35, .int a1, .int a3, .int a4] F7 G7 (fun F8 G8 => Q a4 F8 G8)) ∧ (x7_ = 0 → Q (-1000000013) F7 G7))))))) ∧ (¬ (x5_ = 0) → Q (-1000000011) F5 G5))))))) ∧ (x3_ = .ref 37 → AMi D d nSheet_isMissing [.ref 35] F3 G3 (fun x9_ F9 G9 => ((¬ x9_ = 0 → Q (-1000000011) F9 G9) ∧ (x9_ = 0 → AMi D d nSheet_isMissing [.ref 37] F9 G9 (fun x10_ F10 G10 => ((x10_ = 0 → AMi D d nSheet_hasRun [.ref 35, .int a1, .int a4] F10 G10 (fun x11_ F11 G11 => ((x11_ = 0 → Q (-1000000013) F11 G11) ∧ (¬ (x11_ = 0) → AMi D d nSheet_hasRun [.ref 37, .int a3, .int a4] F11 G11 (fun x12_ F12 G12 => ((¬ x12_ = 0 → AMv D d nSheet_take [.ref 37, .ref 35, .int a1, .int a3, .int a4] F12 G12 (fun F13 G13 => Q a4 F13 G13)) ∧ (x12_ = 0 → Q (-1000000013) F12 G12))))))) ∧ (¬ (x10_ = 0) → Q (-1000000011) F10 G10)))))))))) ∧ (x1_ = .ref 37 → AMr D d nDesk_sheetOf [.ref 1, .int a2] F1 G1 (fun x14_ F14 G14 => (x14_ = .null ∨ x14_ = .ref 35 ∨ x14_ = .ref 37) ∧ ((x14_ = .null → Q (-1000000001) F14 G14) ∧ (x14_ = .ref 35 → AMi D d nSheet_isMissing [.ref 37] F14 G14 (fun x15_ F15 G15 => ((¬ x15_ = 0 → Q (-1000000011) F15 G15) ∧ (x15_ = 0 → AMi D d nSheet_isMissing [.ref 35] F15 G15 (fun x16_ F16 G16 => ((x16_ = 0 → AMi D d nSheet_hasRun [.ref 37, .int a1, .int a4] F16 G16 (fun x17_ F17 G17 => ((x17_ = 0 → Q (-1000000013) F17 G17) ∧ (¬ (x17_ = 0) → AMi D d nSheet_hasRun [.ref 35, .int a3, .int a4] F17 G17 (fun x18_ F18 G18 => ((¬ x18_ = 0 → AMv D d nSheet_take [.ref 35, .ref 37, .int a1, .int a3, .int a4] F18 G18 (fun F19 G19 => Q a4 F19 G19)) ∧ (x18_ = 0 → Q (-1000000013) F18 G18))))))) ∧ (¬ (x16_ = 0) → Q (-1000000011) F16 G16))))))) ∧ (x14_ = .ref 37 → AMi D d nSheet_isMissing [.ref 37] F14 G14 (fun x20_ F20 G20 => ((¬ x20_ = 0 → Q (-1000000011) F20 G20) ∧ (x20_ = 0 → AMi D d nSheet_isMissing [.ref 37] F20 G20 (fun x21_ F21 G21 => ((x21_ = 0 → AMi D d nSheet_hasRun [.ref 37, .int a1, .int a4] F21 G21 (fun x22_ F22 G22 => ((x22_ = 0 → Q (-1000000013) F22 G22) ∧ (¬ (x22_ = 0) → AMi D d nSheet_hasRun [.ref 37, .int a3, .int a4] F22 G22 (fun x23_ F23 G23 => ((¬ x23_ = 0 → AMv D d nSheet_take [.ref 37, .ref 37, .int a1, .int a3, .int a4] F23 G23 (fun F24 G24 => Q a4 F24 G24)) ∧ (x23_ = 0 → Q (-1000000013) F23 G23))))))) ∧ (¬ (x21_ = 0) → Q (-1000000011) F21 G21))))))))))))) : AMi D (d + 1) nDesk_copy [.ref 1, .int a0, .int a1, .int a2, .int a3, .int a4] F G Q := by
  refine AM_intro (by decide) (Nat.le_of_ble_eq_true rfl) ?_
  intro X CX
  refine gw_aload_n CX.1 0 rfl dDesk_copy_0 rfl ?_
  refine gw_iload_n CX.1 1 rfl dDesk_copy_1 rfl ?_
  refine cl_Desk_sheetOf CX (Nat.le_of_ble_eq_true rfl) wm_Desk_93 dDesk_copy_2 H (fun x1_ F1 G1 H => ?_)
  obtain ⟨e, H⟩ := H
  rcases e with e | e | e
  · replace H := H.1 e
    subst e
    refine gw_astoreN CX.1 dDesk_copy_5 (by decide) rfl ?_
    refine gw_aload_n CX.1 1 rfl dDesk_copy_7 rfl ?_
    refine gw_iload_n CX.1 4 rfl dDesk_copy_8 rfl ?_
    refine cl_Desk_sheetOf CX (Nat.le_of_ble_eq_true rfl) wm_Desk_93 dDesk_copy_9 H (fun x2_ F2 G2 H => ?_)
    obtain ⟨e, H⟩ := H
    rcases e with e | e | e
    · replace H := H.1 e
      subst e
      refine gw_astoreN CX.1 dDesk_copy_12 (by decide) rfl ?_
      refine gw_aloadN CX.1 1 rfl dDesk_copy_14 ?_
      refine gw_ifnullN (tgt := 24) CX.1 dDesk_copy_16 (by decide) ?_
      refine gw_ldc CX.1 wc_Desk_61 dDesk_copy_24 ?_
      exact gw_iret CX rfl rfl ⟨_, _, _, rfl, rfl, H⟩ (Nat.zero_le _) (Nat.zero_le _) dDesk_copy_26
    · replace H := H.2.1 e
      subst e
      refine gw_astore CX.1 dDesk_copy_12 (by decide) rfl ?_
      refine gw_aloadN CX.1 1 rfl dDesk_copy_14 ?_
      refine gw_ifnullN (tgt := 24) CX.1 dDesk_copy_16 (by decide) ?_
      refine gw_ldc CX.1 wc_Desk_61 dDesk_copy_24 ?_
      exact gw_iret CX rfl rfl ⟨_, _, _, rfl, rfl, H⟩ (Nat.zero_le _) (Nat.zero_le _) dDesk_copy_26
    · replace H := H.2.2 e
      subst e
      refine gw_astore CX.1 dDesk_copy_12 (by decide) rfl ?_
      refine gw_aloadN CX.1 1 rfl dDesk_copy_14 ?_
      refine gw_ifnullN (tgt := 24) CX.1 dDesk_copy_16 (by decide) ?_
      refine gw_ldc CX.1 wc_Desk_61 dDesk_copy_24 ?_
      exact gw_iret CX rfl rfl ⟨_, _, _, rfl, rfl, H⟩ (Nat.zero_le _) (Nat.zero_le _) dDesk_copy_26
  · replace H := H.2.1 e
    subst e
    refine gw_astore CX.1 dDesk_copy_5 (by decide) rfl ?_
    refine gw_aload_n CX.1 1 rfl dDesk_copy_7 rfl ?_
    refine gw_iload_n CX.1 4 rfl dDesk_copy_8 rfl ?_
    refine cl_Desk_sheetOf CX (Nat.le_of_ble_eq_true rfl) wm_Desk_93 dDesk_copy_9 H (fun x3_ F3 G3 H => ?_)
    obtain ⟨e, H⟩ := H
    rcases e with e | e | e
    · replace H := H.1 e
      subst e
      refine gw_astoreN CX.1 dDesk_copy_12 (by decide) rfl ?_
      refine gw_aload CX.1 1 rfl dDesk_copy_14 ?_
      refine gw_ifnull CX.1 dDesk_copy_16 ?_
      refine gw_aloadN CX.1 0 rfl dDesk_copy_19 ?_
      refine gw_ifnonnullN CX.1 dDesk_copy_21 ?_
      refine gw_ldc CX.1 wc_Desk_61 dDesk_copy_24 ?_
      exact gw_iret CX rfl rfl ⟨_, _, _, rfl, rfl, H⟩ (Nat.zero_le _) (Nat.zero_le _) dDesk_copy_26
    · replace H := H.2.1 e
      subst e
      refine gw_astore CX.1 dDesk_copy_12 (by decide) rfl ?_
      refine gw_aload CX.1 1 rfl dDesk_copy_14 ?_
      refine gw_ifnull CX.1 dDesk_copy_16 ?_
      refine gw_aload CX.1 0 rfl dDesk_copy_19 ?_
      refine gw_ifnonnull (tgt := 27) CX.1 dDesk_copy_21 (by decide) ?_
      refine gw_aload CX.1 1 rfl dDesk_copy_27 ?_
      refine cl_Sheet_isMissing_0 CX (Nat.le_of_ble_eq_true rfl) wm_Desk_97 dDesk_copy_29 H (fun x4_ F4 G4 H => ?_)
      refine gw_if_ne (tgt := 43) CX.1 dDesk_copy_32 (by decide) (fun c => ?_) (fun c => ?_)
      · replace H := H.1 c
        refine gw_ldc CX.1 wc_Desk_101 dDesk_copy_43 ?_
        exact gw_iret CX rfl rfl ⟨_, _, _, rfl, rfl, H⟩ (Nat.zero_le _) (Nat.zero_le _) dDesk_copy_45
      · replace H := H.2 c
        refine gw_aload CX.1 0 rfl dDesk_copy_35 ?_
        refine cl_Sheet_isMissing_0 CX (Nat.le_of_ble_eq_true rfl) wm_Desk_97 dDesk_copy_37 H (fun x5_ F5 G5 H => ?_)
        refine gw_if_eq (tgt := 46) CX.1 dDesk_copy_40 (by decide) (fun c => ?_) (fun c => ?_)
        · replace H := H.1 c
          refine gw_aload CX.1 1 rfl dDesk_copy_46 ?_
          refine gw_iload_n CX.1 4 rfl dDesk_copy_48 rfl ?_
          refine gw_iload CX.1 7 rfl dDesk_copy_49 ?_
          refine cl_Sheet_hasRun_0 CX (Nat.le_of_ble_eq_true rfl) wm_Desk_220 dDesk_copy_51 H (fun x6_ F6 G6 H => ?_)
          refine gw_if_eq (tgt := 69) CX.1 dDesk_copy_54 (by decide) (fun c => ?_) (fun c => ?_)
          · replace H := H.1 c
            refine gw_ldc CX.1 wc_Desk_106 dDesk_copy_69 ?_
            exact gw_iret CX rfl rfl ⟨_, _, _, rfl, rfl, H⟩ (Nat.zero_le _) (Nat.zero_le _) dDesk_copy_71
          · replace H := H.2 c
            refine gw_aload CX.1 0 rfl dDesk_copy_57 ?_
            refine gw_iload CX.1 6 rfl dDesk_copy_59 ?_
            refine gw_iload CX.1 7 rfl dDesk_copy_61 ?_
            refine cl_Sheet_hasRun_0 CX (Nat.le_of_ble_eq_true rfl) wm_Desk_220 dDesk_copy_63 H (fun x7_ F7 G7 H => ?_)
            refine gw_if_ne (tgt := 72) CX.1 dDesk_copy_66 (by decide) (fun c => ?_) (fun c => ?_)
            · replace H := H.1 c
              refine gw_aload CX.1 0 rfl dDesk_copy_72 ?_
              refine gw_aload CX.1 1 rfl dDesk_copy_74 ?_
              refine gw_iload_n CX.1 4 rfl dDesk_copy_76 rfl ?_
              refine gw_iload CX.1 6 rfl dDesk_copy_77 ?_
              refine gw_iload CX.1 7 rfl dDesk_copy_79 ?_
              refine cl_Sheet_take_0_0 CX (Nat.le_of_ble_eq_true rfl) wm_Desk_227 dDesk_copy_81 H (fun F8 G8 H => ?_)
              refine gw_iload CX.1 7 rfl dDesk_copy_84 ?_
              exact gw_iret CX rfl rfl ⟨_, _, _, rfl, rfl, H⟩ (Nat.zero_le _) (Nat.zero_le _) dDesk_copy_86
            · replace H := H.2 c
              refine gw_ldc CX.1 wc_Desk_106 dDesk_copy_69 ?_
              exact gw_iret CX rfl rfl ⟨_, _, _, rfl, rfl, H⟩ (Nat.zero_le _) (Nat.zero_le _) dDesk_copy_71
        · replace H := H.2 c
          refine gw_ldc CX.1 wc_Desk_101 dDesk_copy_43 ?_
          exact gw_iret CX rfl rfl ⟨_, _, _, rfl, rfl, H⟩ (Nat.zero_le _) (Nat.zero_le _) dDesk_copy_45
    · replace H := H.2.2 e
      subst e
      refine gw_astore CX.1 dDesk_copy_12 (by decide) rfl ?_
      refine gw_aload CX.1 1 rfl dDesk_copy_14 ?_
      refine gw_ifnull CX.1 dDesk_copy_16 ?_
      refine gw_aload CX.1 0 rfl dDesk_copy_19 ?_
      refine gw_ifnonnull (tgt := 27) CX.1 dDesk_copy_21 (by decide) ?_
      refine gw_aload CX.1 1 rfl dDesk_copy_27 ?_
      refine cl_Sheet_isMissing_0 CX (Nat.le_of_ble_eq_true rfl) wm_Desk_97 dDesk_copy_29 H (fun x9_ F9 G9 H => ?_)
      refine gw_if_ne (tgt := 43) CX.1 dDesk_copy_32 (by decide) (fun c => ?_) (fun c => ?_)
      · replace H := H.1 c
        refine gw_ldc CX.1 wc_Desk_101 dDesk_copy_43 ?_
        exact gw_iret CX rfl rfl ⟨_, _, _, rfl, rfl, H⟩ (Nat.zero_le _) (Nat.zero_le _) dDesk_copy_45
      · replace H := H.2 c
        refine gw_aload CX.1 0 rfl dDesk_copy_35 ?_
        refine cl_Sheet_isMissing_1 CX (Nat.le_of_ble_eq_true rfl) wm_Desk_97 dDesk_copy_37 H (fun x10_ F10 G10 H => ?_)
        refine gw_if_eq (tgt := 46) CX.1 dDesk_copy_40 (by decide) (fun c => ?_) (fun c => ?_)
        · replace H := H.1 c
          refine gw_aload CX.1 1 rfl dDesk_copy_46 ?_
          refine gw_iload_n CX.1 4 rfl dDesk_copy_48 rfl ?_
          refine gw_iload CX.1 7 rfl dDesk_copy_49 ?_
          refine cl_Sheet_hasRun_0 CX (Nat.le_of_ble_eq_true rfl) wm_Desk_220 dDesk_copy_51 H (fun x11_ F11 G11 H => ?_)
          refine gw_if_eq (tgt := 69) CX.1 dDesk_copy_54 (by decide) (fun c => ?_) (fun c => ?_)
          · replace H := H.1 c
            refine gw_ldc CX.1 wc_Desk_106 dDesk_copy_69 ?_
            exact gw_iret CX rfl rfl ⟨_, _, _, rfl, rfl, H⟩ (Nat.zero_le _) (Nat.zero_le _) dDesk_copy_71
          · replace H := H.2 c
            refine gw_aload CX.1 0 rfl dDesk_copy_57 ?_
            refine gw_iload CX.1 6 rfl dDesk_copy_59 ?_
            refine gw_iload CX.1 7 rfl dDesk_copy_61 ?_
            refine cl_Sheet_hasRun_1 CX (Nat.le_of_ble_eq_true rfl) wm_Desk_220 dDesk_copy_63 H (fun x12_ F12 G12 H => ?_)
            refine gw_if_ne (tgt := 72) CX.1 dDesk_copy_66 (by decide) (fun c => ?_) (fun c => ?_)
            · replace H := H.1 c
              refine gw_aload CX.1 0 rfl dDesk_copy_72 ?_
              refine gw_aload CX.1 1 rfl dDesk_copy_74 ?_
              refine gw_iload_n CX.1 4 rfl dDesk_copy_76 rfl ?_
              refine gw_iload CX.1 6 rfl dDesk_copy_77 ?_
              refine gw_iload CX.1 7 rfl dDesk_copy_79 ?_
              refine cl_Sheet_take_1_0 CX (Nat.le_of_ble_eq_true rfl) wm_Desk_227 dDesk_copy_81 H (fun F13 G13 H => ?_)
              refine gw_iload CX.1 7 rfl dDesk_copy_84 ?_
              exact gw_iret CX rfl rfl ⟨_, _, _, rfl, rfl, H⟩ (Nat.zero_le _) (Nat.zero_le _) dDesk_copy_86
            · replace H := H.2 c
              refine gw_ldc CX.1 wc_Desk_106 dDesk_copy_69 ?_
              exact gw_iret CX rfl rfl ⟨_, _, _, rfl, rfl, H⟩ (Nat.zero_le _) (Nat.zero_le _) dDesk_copy_71
        · replace H := H.2 c
          refine gw_ldc CX.1 wc_Desk_101 dDesk_copy_43 ?_
          exact gw_iret CX rfl rfl ⟨_, _, _, rfl, rfl, H⟩ (Nat.zero_le _) (Nat.zero_le _) dDesk_copy_45
  · replace H := H.2.2 e
    subst e
    refine gw_astore CX.1 dDesk_copy_5 (by decide) rfl ?_
    refine gw_aload_n CX.1 1 rfl dDesk_copy_7 rfl ?_
    refine gw_iload_n CX.1 4 rfl dDesk_copy_8 rfl ?_
    refine cl_Desk_sheetOf CX (Nat.le_of_ble_eq_true rfl) wm_Desk_93 dDesk_copy_9 H (fun x14_ F14 G14 H => ?_)
    obtain ⟨e, H⟩ := H
    rcases e with e | e | e
    · replace H := H.1 e
      subst e
      refine gw_astoreN CX.1 dDesk_copy_12 (by decide) rfl ?_
      refine gw_aload CX.1 1 rfl dDesk_copy_14 ?_
      refine gw_ifnull CX.1 dDesk_copy_16 ?_
      refine gw_aloadN CX.1 0 rfl dDesk_copy_19 ?_
      refine gw_ifnonnullN CX.1 dDesk_copy_21 ?_
      refine gw_ldc CX.1 wc_Desk_61 dDesk_copy_24 ?_
      exact gw_iret CX rfl rfl ⟨_, _, _, rfl, rfl, H⟩ (Nat.zero_le _) (Nat.zero_le _) dDesk_copy_26
    · replace H := H.2.1 e
      subst e
      refine gw_astore CX.1 dDesk_copy_12 (by decide) rfl ?_
      refine gw_aload CX.1 1 rfl dDesk_copy_14 ?_
      refine gw_ifnull CX.1 dDesk_copy_16 ?_
      refine gw_aload CX.1 0 rfl dDesk_copy_19 ?_
      refine gw_ifnonnull (tgt := 27) CX.1 dDesk_copy_21 (by decide) ?_
      refine gw_aload CX.1 1 rfl dDesk_copy_27 ?_
      refine cl_Sheet_isMissing_1 CX (Nat.le_of_ble_eq_true rfl) wm_Desk_97 dDesk_copy_29 H (fun x15_ F15 G15 H => ?_)
      refine gw_if_ne (tgt := 43) CX.1 dDesk_copy_32 (by decide) (fun c => ?_) (fun c => ?_)
      · replace H := H.1 c
        refine gw_ldc CX.1 wc_Desk_101 dDesk_copy_43 ?_
        exact gw_iret CX rfl rfl ⟨_, _, _, rfl, rfl, H⟩ (Nat.zero_le _) (Nat.zero_le _) dDesk_copy_45
      · replace H := H.2 c
        refine gw_aload CX.1 0 rfl dDesk_copy_35 ?_
        refine cl_Sheet_isMissing_0 CX (Nat.le_of_ble_eq_true rfl) wm_Desk_97 dDesk_copy_37 H (fun x16_ F16 G16 H => ?_)
        refine gw_if_eq (tgt := 46) CX.1 dDesk_copy_40 (by decide) (fun c => ?_) (fun c => ?_)
        · replace H := H.1 c
          refine gw_aload CX.1 1 rfl dDesk_copy_46 ?_
          refine gw_iload_n CX.1 4 rfl dDesk_copy_48 rfl ?_
          refine gw_iload CX.1 7 rfl dDesk_copy_49 ?_
          refine cl_Sheet_hasRun_1 CX (Nat.le_of_ble_eq_true rfl) wm_Desk_220 dDesk_copy_51 H (fun x17_ F17 G17 H => ?_)
          refine gw_if_eq (tgt := 69) CX.1 dDesk_copy_54 (by decide) (fun c => ?_) (fun c => ?_)
          · replace H := H.1 c
            refine gw_ldc CX.1 wc_Desk_106 dDesk_copy_69 ?_
            exact gw_iret CX rfl rfl ⟨_, _, _, rfl, rfl, H⟩ (Nat.zero_le _) (Nat.zero_le _) dDesk_copy_71
          · replace H := H.2 c
            refine gw_aload CX.1 0 rfl dDesk_copy_57 ?_
            refine gw_iload CX.1 6 rfl dDesk_copy_59 ?_
            refine gw_iload CX.1 7 rfl dDesk_copy_61 ?_
            refine cl_Sheet_hasRun_0 CX (Nat.le_of_ble_eq_true rfl) wm_Desk_220 dDesk_copy_63 H (fun x18_ F18 G18 H => ?_)
            refine gw_if_ne (tgt := 72) CX.1 dDesk_copy_66 (by decide) (fun c => ?_) (fun c => ?_)
            · replace H := H.1 c
              refine gw_aload CX.1 0 rfl dDesk_copy_72 ?_
              refine gw_aload CX.1 1 rfl dDesk_copy_74 ?_
              refine gw_iload_n CX.1 4 rfl dDesk_copy_76 rfl ?_
              refine gw_iload CX.1 6 rfl dDesk_copy_77 ?_
              refine gw_iload CX.1 7 rfl dDesk_copy_79 ?_
              refine cl_Sheet_take_0_1 CX (Nat.le_of_ble_eq_true rfl) wm_Desk_227 dDesk_copy_81 H (fun F19 G19 H => ?_)
              refine gw_iload CX.1 7 rfl dDesk_copy_84 ?_
              exact gw_iret CX rfl rfl ⟨_, _, _, rfl, rfl, H⟩ (Nat.zero_le _) (Nat.zero_le _) dDesk_copy_86
            · replace H := H.2 c
              refine gw_ldc CX.1 wc_Desk_106 dDesk_copy_69 ?_
              exact gw_iret CX rfl rfl ⟨_, _, _, rfl, rfl, H⟩ (Nat.zero_le _) (Nat.zero_le _) dDesk_copy_71
        · replace H := H.2 c
          refine gw_ldc CX.1 wc_Desk_101 dDesk_copy_43 ?_
          exact gw_iret CX rfl rfl ⟨_, _, _, rfl, rfl, H⟩ (Nat.zero_le _) (Nat.zero_le _) dDesk_copy_45
    · replace H := H.2.2 e
      subst e
      refine gw_astore CX.1 dDesk_copy_12 (by decide) rfl ?_
      refine gw_aload CX.1 1 rfl dDesk_copy_14 ?_
      refine gw_ifnull CX.1 dDesk_copy_16 ?_
      refine gw_aload CX.1 0 rfl dDesk_copy_19 ?_
      refine gw_ifnonnull (tgt := 27) CX.1 dDesk_copy_21 (by decide) ?_
      refine gw_aload CX.1 1 rfl dDesk_copy_27 ?_
      refine cl_Sheet_isMissing_1 CX (Nat.le_of_ble_eq_true rfl) wm_Desk_97 dDesk_copy_29 H (fun x20_ F20 G20 H => ?_)
      refine gw_if_ne (tgt := 43) CX.1 dDesk_copy_32 (by decide) (fun c => ?_) (fun c => ?_)
      · replace H := H.1 c
        refine gw_ldc CX.1 wc_Desk_101 dDesk_copy_43 ?_
        exact gw_iret CX rfl rfl ⟨_, _, _, rfl, rfl, H⟩ (Nat.zero_le _) (Nat.zero_le _) dDesk_copy_45
      · replace H := H.2 c
        refine gw_aload CX.1 0 rfl dDesk_copy_35 ?_
        refine cl_Sheet_isMissing_1 CX (Nat.le_of_ble_eq_true rfl) wm_Desk_97 dDesk_copy_37 H (fun x21_ F21 G21 H => ?_)
        refine gw_if_eq (tgt := 46) CX.1 dDesk_copy_40 (by decide) (fun c => ?_) (fun c => ?_)
        · replace H := H.1 c
          refine gw_aload CX.1 1 rfl dDesk_copy_46 ?_
          refine gw_iload_n CX.1 4 rfl dDesk_copy_48 rfl ?_
          refine gw_iload CX.1 7 rfl dDesk_copy_49 ?_
          refine cl_Sheet_hasRun_1 CX (Nat.le_of_ble_eq_true rfl) wm_Desk_220 dDesk_copy_51 H (fun x22_ F22 G22 H => ?_)
          refine gw_if_eq (tgt := 69) CX.1 dDesk_copy_54 (by decide) (fun c => ?_) (fun c => ?_)
          · replace H := H.1 c
            refine gw_ldc CX.1 wc_Desk_106 dDesk_copy_69 ?_
            exact gw_iret CX rfl rfl ⟨_, _, _, rfl, rfl, H⟩ (Nat.zero_le _) (Nat.zero_le _) dDesk_copy_71
          · replace H := H.2 c
            refine gw_aload CX.1 0 rfl dDesk_copy_57 ?_
            refine gw_iload CX.1 6 rfl dDesk_copy_59 ?_
            refine gw_iload CX.1 7 rfl dDesk_copy_61 ?_
            refine cl_Sheet_hasRun_1 CX (Nat.le_of_ble_eq_true rfl) wm_Desk_220 dDesk_copy_63 H (fun x23_ F23 G23 H => ?_)
            refine gw_if_ne (tgt := 72) CX.1 dDesk_copy_66 (by decide) (fun c => ?_) (fun c => ?_)
            · replace H := H.1 c
              refine gw_aload CX.1 0 rfl dDesk_copy_72 ?_
              refine gw_aload CX.1 1 rfl dDesk_copy_74 ?_
              refine gw_iload_n CX.1 4 rfl dDesk_copy_76 rfl ?_
              refine gw_iload CX.1 6 rfl dDesk_copy_77 ?_
              refine gw_iload CX.1 7 rfl dDesk_copy_79 ?_
              refine cl_Sheet_take_1_1 CX (Nat.le_of_ble_eq_true rfl) wm_Desk_227 dDesk_copy_81 H (fun F24 G24 H => ?_)
              refine gw_iload CX.1 7 rfl dDesk_copy_84 ?_
              exact gw_iret CX rfl rfl ⟨_, _, _, rfl, rfl, H⟩ (Nat.zero_le _) (Nat.zero_le _) dDesk_copy_86
            · replace H := H.2 c
              refine gw_ldc CX.1 wc_Desk_106 dDesk_copy_69 ?_
              exact gw_iret CX rfl rfl ⟨_, _, _, rfl, rfl, H⟩ (Nat.zero_le _) (Nat.zero_le _) dDesk_copy_71
        · replace H := H.2 c
          refine gw_ldc CX.1 wc_Desk_101 dDesk_copy_43 ?_
          exact gw_iret CX rfl rfl ⟨_, _, _, rfl, rfl, H⟩ (Nat.zero_le _) (Nat.zero_le _) dDesk_copy_45
theorem eDesk_count {D : va_G} {d : Nat} {Q : Int32 → (Nat → Nat → Int32) → (Nat → Int64) → Prop} {F : Nat → Nat → Int32} {G : Nat → Int64} {a0 : Int32} (H : ((a0 = 0 → AMi D d nShow_tracks [.ref 2] F G (fun x1_ F1 G1 => Q x1_ F1 G1)) ∧ (a0 = 1 → AMi D d nCompany_people [.ref 8] F G (fun x2_ F2 G2 => Q x2_ F2 G2)) ∧ (a0 = 2 → AMi D d nShow_countLifts [.ref 2] F G (fun x3_ F3 G3 => Q x3_ F3 G3)) ∧ (a0 = 3 → AMi D d nCompany_today [.ref 8] F G (fun x4_ F4 G4 => Q x4_ F4 G4)) ∧ (a0 = 4 → AMi D d nCompany_countOut [.ref 8] F G (fun x5_ F5 G5 => Q x5_ F5 G5)) ∧ (a0 = 5 → AMi D d nCompany_countOwned [.ref 8] F G (fun x6_ F6 G6 => Q x6_ F6 G6)) ∧ (a0 = 6 → AMi D d nCompany_countFeuds [.ref 8] F G (fun x7_ F7 G7 => Q x7_ F7 G7)) ∧ (a0 = 7 → AMi D d nCompany_countFreshPairs [.ref 8] F G (fun x8_ F8 G8 => Q x8_ F8 G8)) ∧ ((¬ a0 = 0 ∧ ¬ a0 = 1 ∧ ¬ a0 = 2 ∧ ¬ a0 = 3 ∧ ¬ a0 = 4 ∧ ¬ a0 = 5 ∧ ¬ a0 = 6 ∧ ¬ a0 = 7) → Q (-1000000001) F G))) : AMi D (d + 1) nDesk_count [.ref 1, .int a0] F G Q := by
  refine AM_intro (by decide) (Nat.le_of_ble_eq_true rfl) ?_
  intro X CX
  refine gw_iload_n CX.1 1 rfl dDesk_count_0 rfl ?_
  by_cases e0 : a0 = 0
  · replace H := H.1 e0
    refine gw_tableIn (off := 47) (tgt := 48) CX.1 dDesk_count_1 (by rw [e0]; decide) (by rw [e0]; decide) (by rw [e0]; decide) (by decide) ?_
    refine gw_aload_n CX.1 0 rfl dDesk_count_48 rfl ?_
    refine gg_Desk_10 CX.1 rfl dDesk_count_49 ?_
    refine cl_Show_tracks CX (Nat.le_of_ble_eq_true rfl) wm_Desk_231 dDesk_count_52 H (fun x1_ F1 G1 H => ?_)
    exact gw_iret CX rfl rfl ⟨_, _, _, rfl, rfl, H⟩ (Nat.zero_le _) (Nat.zero_le _) dDesk_count_55
  by_cases e1 : a0 = 1
  · replace H := H.2.1 e1
    refine gw_tableIn (off := 55) (tgt := 56) CX.1 dDesk_count_1 (by rw [e1]; decide) (by rw [e1]; decide) (by rw [e1]; decide) (by decide) ?_
    refine gw_aload_n CX.1 0 rfl dDesk_count_56 rfl ?_
    refine gg_Desk_19 CX.1 rfl dDesk_count_57 ?_
    refine cl_Company_people CX (Nat.le_of_ble_eq_true rfl) wm_Desk_234 dDesk_count_60 H (fun x2_ F2 G2 H => ?_)
    exact gw_iret CX rfl rfl ⟨_, _, _, rfl, rfl, H⟩ (Nat.zero_le _) (Nat.zero_le _) dDesk_count_63
  by_cases e2 : a0 = 2
  · replace H := H.2.2.1 e2
    refine gw_tableIn (off := 63) (tgt := 64) CX.1 dDesk_count_1 (by rw [e2]; decide) (by rw [e2]; decide) (by rw [e2]; decide) (by decide) ?_
    refine gw_aload_n CX.1 0 rfl dDesk_count_64 rfl ?_
    refine gg_Desk_10 CX.1 rfl dDesk_count_65 ?_
    refine cl_Show_countLifts CX (Nat.le_of_ble_eq_true rfl) wm_Desk_237 dDesk_count_68 H (fun x3_ F3 G3 H => ?_)
    exact gw_iret CX rfl rfl ⟨_, _, _, rfl, rfl, H⟩ (Nat.zero_le _) (Nat.zero_le _) dDesk_count_71
  by_cases e3 : a0 = 3
  · replace H := H.2.2.2.1 e3
    refine gw_tableIn (off := 71) (tgt := 72) CX.1 dDesk_count_1 (by rw [e3]; decide) (by rw [e3]; decide) (by rw [e3]; decide) (by decide) ?_
    refine gw_aload_n CX.1 0 rfl dDesk_count_72 rfl ?_
    refine gg_Desk_19 CX.1 rfl dDesk_count_73 ?_
    refine cl_Company_today CX (Nat.le_of_ble_eq_true rfl) wm_Desk_166 dDesk_count_76 H (fun x4_ F4 G4 H => ?_)
    exact gw_iret CX rfl rfl ⟨_, _, _, rfl, rfl, H⟩ (Nat.zero_le _) (Nat.zero_le _) dDesk_count_79
  by_cases e4 : a0 = 4
  · replace H := H.2.2.2.2.1 e4
    refine gw_tableIn (off := 79) (tgt := 80) CX.1 dDesk_count_1 (by rw [e4]; decide) (by rw [e4]; decide) (by rw [e4]; decide) (by decide) ?_
    refine gw_aload_n CX.1 0 rfl dDesk_count_80 rfl ?_
    refine gg_Desk_19 CX.1 rfl dDesk_count_81 ?_
    refine cl_Company_countOut CX (Nat.le_of_ble_eq_true rfl) wm_Desk_240 dDesk_count_84 H (fun x5_ F5 G5 H => ?_)
    exact gw_iret CX rfl rfl ⟨_, _, _, rfl, rfl, H⟩ (Nat.zero_le _) (Nat.zero_le _) dDesk_count_87
  by_cases e5 : a0 = 5
  · replace H := H.2.2.2.2.2.1 e5
    refine gw_tableIn (off := 87) (tgt := 88) CX.1 dDesk_count_1 (by rw [e5]; decide) (by rw [e5]; decide) (by rw [e5]; decide) (by decide) ?_
    refine gw_aload_n CX.1 0 rfl dDesk_count_88 rfl ?_
    refine gg_Desk_19 CX.1 rfl dDesk_count_89 ?_
    refine cl_Company_countOwned CX (Nat.le_of_ble_eq_true rfl) wm_Desk_243 dDesk_count_92 H (fun x6_ F6 G6 H => ?_)
    exact gw_iret CX rfl rfl ⟨_, _, _, rfl, rfl, H⟩ (Nat.zero_le _) (Nat.zero_le _) dDesk_count_95
  by_cases e6 : a0 = 6
  · replace H := H.2.2.2.2.2.2.1 e6
    refine gw_tableIn (off := 95) (tgt := 96) CX.1 dDesk_count_1 (by rw [e6]; decide) (by rw [e6]; decide) (by rw [e6]; decide) (by decide) ?_
    refine gw_aload_n CX.1 0 rfl dDesk_count_96 rfl ?_
    refine gg_Desk_19 CX.1 rfl dDesk_count_97 ?_
    refine cl_Company_countFeuds CX (Nat.le_of_ble_eq_true rfl) wm_Desk_246 dDesk_count_100 H (fun x7_ F7 G7 H => ?_)
    exact gw_iret CX rfl rfl ⟨_, _, _, rfl, rfl, H⟩ (Nat.zero_le _) (Nat.zero_le _) dDesk_count_103
  by_cases e7 : a0 = 7
  · replace H := H.2.2.2.2.2.2.2.1 e7
    refine gw_tableIn (off := 103) (tgt := 104) CX.1 dDesk_count_1 (by rw [e7]; decide) (by rw [e7]; decide) (by rw [e7]; decide) (by decide) ?_
    refine gw_aload_n CX.1 0 rfl dDesk_count_104 rfl ?_
    refine gg_Desk_19 CX.1 rfl dDesk_count_105 ?_
    refine cl_Company_countFreshPairs CX (Nat.le_of_ble_eq_true rfl) wm_Desk_249 dDesk_count_108 H (fun x8_ F8 G8 H => ?_)
    exact gw_iret CX rfl rfl ⟨_, _, _, rfl, rfl, H⟩ (Nat.zero_le _) (Nat.zero_le _) dDesk_count_111
  replace H := H.2.2.2.2.2.2.2.2 ⟨e0, e1, e2, e3, e4, e5, e6, e7⟩
  have n0 := lv_neT (a := 0) e0 (by decide)
  have n1 := lv_neT (a := 1) e1 (by decide)
  have n2 := lv_neT (a := 2) e2 (by decide)
  have n3 := lv_neT (a := 3) e3 (by decide)
  have n4 := lv_neT (a := 4) e4 (by decide)
  have n5 := lv_neT (a := 5) e5 (by decide)
  have n6 := lv_neT (a := 6) e6 (by decide)
  have n7 := lv_neT (a := 7) e7 (by decide)
  refine gw_tableOut (tgt := 112) CX.1 dDesk_count_1 (by omega) (by decide) ?_
  refine gw_ldc CX.1 wc_Desk_61 dDesk_count_112 ?_
  exact gw_iret CX rfl rfl ⟨_, _, _, rfl, rfl, H⟩ (Nat.zero_le _) (Nat.zero_le _) dDesk_count_114
