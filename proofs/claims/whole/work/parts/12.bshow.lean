theorem eDesk_isWithin {D : va_G} {d : Nat} {Q : Int32 → (Nat → Nat → Int32) → (Nat → Int64) → Prop} {F : Nat → Nat → Int32} {G : Nat → Int64} {a0 : Int32} {a1 : Int32} {a2 : Int32} (H : ((a0 < a1 → Q 0 F G) ∧ (¬ (a0 < a1) → ((a2 < a0 → Q 0 F G) ∧ (¬ (a2 < a0) → Q 1 F G))))) : AMi D (d + 1) nDesk_isWithin [.int a0, .int a1, .int a2] F G Q := by
  refine AM_intro (by decide) (Nat.le_of_ble_eq_true rfl) ?_
  intro X CX
  refine gw_iload_n CX.1 0 rfl dDesk_isWithin_0 rfl ?_
  refine gw_iload_n CX.1 1 rfl dDesk_isWithin_1 rfl ?_
  refine gw_icmp_lt (tgt := 14) CX.1 dDesk_isWithin_2 (by decide) (fun c => ?_) (fun c => ?_)
  · replace H := H.1 c
    refine gw_iconst (v := 0) CX.1 dDesk_isWithin_14 (by decide) ?_
    exact gw_iret CX rfl (by decide) ⟨_, _, _, rfl, rfl, H⟩ (Nat.zero_le _) (Nat.zero_le _) dDesk_isWithin_15
  · replace H := H.2 c
    refine gw_iload_n CX.1 0 rfl dDesk_isWithin_5 rfl ?_
    refine gw_iload_n CX.1 2 rfl dDesk_isWithin_6 rfl ?_
    refine gw_icmp_gt (tgt := 14) CX.1 dDesk_isWithin_7 (by decide) (fun c => ?_) (fun c => ?_)
    · replace H := H.1 c
      refine gw_iconst (v := 0) CX.1 dDesk_isWithin_14 (by decide) ?_
      exact gw_iret CX rfl (by decide) ⟨_, _, _, rfl, rfl, H⟩ (Nat.zero_le _) (Nat.zero_le _) dDesk_isWithin_15
    · replace H := H.2 c
      refine gw_iconst (v := 1) CX.1 dDesk_isWithin_10 (by decide) ?_
      refine gw_goto (tgt := 15) CX.1 dDesk_isWithin_11 (by decide) ?_
      exact gw_iret CX rfl (by decide) ⟨_, _, _, rfl, rfl, H⟩ (Nat.zero_le _) (Nat.zero_le _) dDesk_isWithin_15
theorem eShow_addTrack {D : va_G} {d : Nat} {Q : Int32 → (Nat → Nat → Int32) → (Nat → Int64) → Prop} {F : Nat → Nat → Int32} {G : Nat → Int64} {a0 : Int32} (H : (((F 100 0) < 8 → vp_in (F 100 0) 8 ∧ Q (((upS (up F 2 ((F 100 0).toNatClampNeg) a0) 100 (((up F 2 ((F 100 0).toNatClampNeg) a0) 100 0) + 1)) 100 0) - 1) (upS (up F 2 ((F 100 0).toNatClampNeg) a0) 100 (((up F 2 ((F 100 0).toNatClampNeg) a0) 100 0) + 1)) G) ∧ (¬ ((F 100 0) < 8) → Q (-1000000003) F G))) : AMi D (d + 1) nShow_addTrack [.ref 2, .int a0] F G Q := by
  refine AM_intro (by decide) (Nat.le_of_ble_eq_true rfl) ?_
  intro X CX
  refine gw_aload_n CX.1 0 rfl dShow_addTrack_0 rfl ?_
  refine gg_Show_9 CX.1 rfl dShow_addTrack_1 ?_
  refine gw_bipush (v := 8) CX.1 dShow_addTrack_4 (by decide) ?_
  refine gw_icmp_lt (tgt := 12) CX.1 dShow_addTrack_6 (by decide) (fun c => ?_) (fun c => ?_)
  · replace H := H.1 c
    refine gw_aload_n CX.1 0 rfl dShow_addTrack_12 rfl ?_
    refine gg_Show_15 CX.1 rfl dShow_addTrack_13 ?_
    refine gw_aload_n CX.1 0 rfl dShow_addTrack_16 rfl ?_
    refine gg_Show_9 CX.1 rfl dShow_addTrack_17 ?_
    refine gw_iload_n CX.1 1 rfl dShow_addTrack_20 rfl ?_
    obtain ⟨hin, H⟩ := H
    refine gs_2 CX.1 hin dShow_addTrack_21 ?_
    refine gw_aload_n CX.1 0 rfl dShow_addTrack_22 rfl ?_
    refine gw_dup CX.1 dShow_addTrack_23 rfl ?_
    refine gg_Show_9 CX.1 rfl dShow_addTrack_24 ?_
    refine gw_iconst (v := 1) CX.1 dShow_addTrack_27 (by decide) ?_
    refine gw_iadd CX.1 dShow_addTrack_28 ?_
    refine gp_Show_9 CX.1 rfl dShow_addTrack_29 ?_
    refine gw_aload_n CX.1 0 rfl dShow_addTrack_32 rfl ?_
    refine gg_Show_9 CX.1 rfl dShow_addTrack_33 ?_
    refine gw_iconst (v := 1) CX.1 dShow_addTrack_36 (by decide) ?_
    refine gw_isub CX.1 dShow_addTrack_37 ?_
    exact gw_iret CX rfl rfl ⟨_, _, _, rfl, rfl, H⟩ (Nat.zero_le _) (Nat.zero_le _) dShow_addTrack_38
  · replace H := H.2 c
    refine gw_ldc CX.1 wc_Show_38 dShow_addTrack_9 ?_
    exact gw_iret CX rfl rfl ⟨_, _, _, rfl, rfl, H⟩ (Nat.zero_le _) (Nat.zero_le _) dShow_addTrack_11
theorem eShow_isTrack {D : va_G} {d : Nat} {Q : Int32 → (Nat → Nat → Int32) → (Nat → Int64) → Prop} {F : Nat → Nat → Int32} {G : Nat → Int64} {a0 : Int32} (H : ((a0 < 0 → Q 0 F G) ∧ (¬ (a0 < 0) → (((F 100 0) ≤ a0 → Q 0 F G) ∧ (¬ ((F 100 0) ≤ a0) → Q 1 F G))))) : AMi D (d + 1) nShow_isTrack [.ref 2, .int a0] F G Q := by
  refine AM_intro (by decide) (Nat.le_of_ble_eq_true rfl) ?_
  intro X CX
  refine gw_iload_n CX.1 1 rfl dShow_isTrack_0 rfl ?_
  refine gw_if_lt (tgt := 16) CX.1 dShow_isTrack_1 (by decide) (fun c => ?_) (fun c => ?_)
  · replace H := H.1 c
    refine gw_iconst (v := 0) CX.1 dShow_isTrack_16 (by decide) ?_
    exact gw_iret CX rfl (by decide) ⟨_, _, _, rfl, rfl, H⟩ (Nat.zero_le _) (Nat.zero_le _) dShow_isTrack_17
  · replace H := H.2 c
    refine gw_iload_n CX.1 1 rfl dShow_isTrack_4 rfl ?_
    refine gw_aload_n CX.1 0 rfl dShow_isTrack_5 rfl ?_
    refine gg_Show_9 CX.1 rfl dShow_isTrack_6 ?_
    refine gw_icmp_ge (tgt := 16) CX.1 dShow_isTrack_9 (by decide) (fun c => ?_) (fun c => ?_)
    · replace H := H.1 c
      refine gw_iconst (v := 0) CX.1 dShow_isTrack_16 (by decide) ?_
      exact gw_iret CX rfl (by decide) ⟨_, _, _, rfl, rfl, H⟩ (Nat.zero_le _) (Nat.zero_le _) dShow_isTrack_17
    · replace H := H.2 c
      refine gw_iconst (v := 1) CX.1 dShow_isTrack_12 (by decide) ?_
      refine gw_goto (tgt := 17) CX.1 dShow_isTrack_13 (by decide) ?_
      exact gw_iret CX rfl (by decide) ⟨_, _, _, rfl, rfl, H⟩ (Nat.zero_le _) (Nat.zero_le _) dShow_isTrack_17
theorem eDesk_isCue {D : va_G} {d : Nat} {Q : Int32 → (Nat → Nat → Int32) → (Nat → Int64) → Prop} {F : Nat → Nat → Int32} {G : Nat → Int64} {a0 : Int32} (H : ((a0 < 0 → Q 0 F G) ∧ (¬ (a0 < 0) → ((30 ≤ a0 → Q 0 F G) ∧ (¬ (30 ≤ a0) → Q 1 F G))))) : AMi D (d + 1) nDesk_isCue [.int a0] F G Q := by
  refine AM_intro (by decide) (Nat.le_of_ble_eq_true rfl) ?_
  intro X CX
  refine gw_iload_n CX.1 0 rfl dDesk_isCue_0 rfl ?_
  refine gw_if_lt (tgt := 14) CX.1 dDesk_isCue_1 (by decide) (fun c => ?_) (fun c => ?_)
  · replace H := H.1 c
    refine gw_iconst (v := 0) CX.1 dDesk_isCue_14 (by decide) ?_
    exact gw_iret CX rfl (by decide) ⟨_, _, _, rfl, rfl, H⟩ (Nat.zero_le _) (Nat.zero_le _) dDesk_isCue_15
  · replace H := H.2 c
    refine gw_iload_n CX.1 0 rfl dDesk_isCue_4 rfl ?_
    refine gw_bipush (v := 30) CX.1 dDesk_isCue_5 (by decide) ?_
    refine gw_icmp_ge (tgt := 14) CX.1 dDesk_isCue_7 (by decide) (fun c => ?_) (fun c => ?_)
    · replace H := H.1 c
      refine gw_iconst (v := 0) CX.1 dDesk_isCue_14 (by decide) ?_
      exact gw_iret CX rfl (by decide) ⟨_, _, _, rfl, rfl, H⟩ (Nat.zero_le _) (Nat.zero_le _) dDesk_isCue_15
    · replace H := H.2 c
      refine gw_iconst (v := 1) CX.1 dDesk_isCue_10 (by decide) ?_
      refine gw_goto (tgt := 15) CX.1 dDesk_isCue_11 (by decide) ?_
      exact gw_iret CX rfl (by decide) ⟨_, _, _, rfl, rfl, H⟩ (Nat.zero_le _) (Nat.zero_le _) dDesk_isCue_15
theorem eDesk_isFlag {D : va_G} {d : Nat} {Q : Int32 → (Nat → Nat → Int32) → (Nat → Int64) → Prop} {F : Nat → Nat → Int32} {G : Nat → Int64} {a0 : Int32} (H : AMi D d nDesk_isWithin [.int a0, .int 0, .int 1] F G (fun x1_ F1 G1 => narrow .boolean (.int x1_) = .int x1_ ∧ Q x1_ F1 G1)) : AMi D (d + 1) nDesk_isFlag [.int a0] F G Q := by
  refine AM_intro (by decide) (Nat.le_of_ble_eq_true rfl) ?_
  intro X CX
  refine gw_iload_n CX.1 0 rfl dDesk_isFlag_0 rfl ?_
  refine gw_iconst (v := 0) CX.1 dDesk_isFlag_1 (by decide) ?_
  refine gw_iconst (v := 1) CX.1 dDesk_isFlag_2 (by decide) ?_
  refine cl_Desk_isWithin CX (Nat.le_of_ble_eq_true rfl) wm_Desk_53 dDesk_isFlag_3 H (fun x1_ F1 G1 H => ?_)
  obtain ⟨hn, H⟩ := H
  exact gw_iret CX rfl hn ⟨_, _, _, rfl, rfl, H⟩ (Nat.zero_le _) (Nat.zero_le _) dDesk_isFlag_6
theorem eShow_placeAt {D : va_G} {d : Nat} {Q : Int32 → (Nat → Nat → Int32) → (Nat → Int64) → Prop} {F : Nat → Nat → Int32} {G : Nat → Int64} {a0 : Int32} {a1 : Int32} (H : AMi D d nShow_isTrack [.ref 2, .int a0] F G (fun x1_ F1 G1 => ((x1_ = 0 → Q (-1000000005) F1 G1) ∧ (¬ (x1_ = 0) → AMi D d nDesk_isCue [.int a1] F1 G1 (fun x2_ F2 G2 => ((x2_ = 0 → Q (-1000000005) F2 G2) ∧ (¬ (x2_ = 0) → vp_in ((a0 * 30) + a1) 240 ∧ Q (F2 3 ((a0 * 30) + a1).toNatClampNeg) F2 G2))))))) : AMi D (d + 1) nShow_placeAt [.ref 2, .int a0, .int a1] F G Q := by
  refine AM_intro (by decide) (Nat.le_of_ble_eq_true rfl) ?_
  intro X CX
  refine gw_aload_n CX.1 0 rfl dShow_placeAt_0 rfl ?_
  refine gw_iload_n CX.1 1 rfl dShow_placeAt_1 rfl ?_
  refine cl_Show_isTrack CX (Nat.le_of_ble_eq_true rfl) wm_Show_39 dShow_placeAt_2 H (fun x1_ F1 G1 H => ?_)
  refine gw_if_eq (tgt := 29) CX.1 dShow_placeAt_5 (by decide) (fun c => ?_) (fun c => ?_)
  · replace H := H.1 c
    refine gw_ldc CX.1 wc_Show_31 dShow_placeAt_29 ?_
    exact gw_iret CX rfl rfl ⟨_, _, _, rfl, rfl, H⟩ (Nat.zero_le _) (Nat.zero_le _) dShow_placeAt_31
  · replace H := H.2 c
    refine gw_iload_n CX.1 2 rfl dShow_placeAt_8 rfl ?_
    refine cn_Desk_isCue CX (Nat.le_of_ble_eq_true rfl) wm_Show_43 dShow_placeAt_9 H (fun x2_ F2 G2 H => ?_)
    refine gw_if_eq (tgt := 29) CX.1 dShow_placeAt_12 (by decide) (fun c => ?_) (fun c => ?_)
    · replace H := H.1 c
      refine gw_ldc CX.1 wc_Show_31 dShow_placeAt_29 ?_
      exact gw_iret CX rfl rfl ⟨_, _, _, rfl, rfl, H⟩ (Nat.zero_le _) (Nat.zero_le _) dShow_placeAt_31
    · replace H := H.2 c
      refine gw_aload_n CX.1 0 rfl dShow_placeAt_15 rfl ?_
      refine gg_Show_19 CX.1 rfl dShow_placeAt_16 ?_
      refine gw_iload_n CX.1 1 rfl dShow_placeAt_19 rfl ?_
      refine gw_bipush (v := 30) CX.1 dShow_placeAt_20 (by decide) ?_
      refine gw_imul CX.1 dShow_placeAt_22 ?_
      refine gw_iload_n CX.1 2 rfl dShow_placeAt_23 rfl ?_
      refine gw_iadd CX.1 dShow_placeAt_24 ?_
      obtain ⟨hin, H⟩ := H
      refine ga_3 CX.1 hin dShow_placeAt_25 ?_
      refine gw_goto (tgt := 31) CX.1 dShow_placeAt_26 (by decide) ?_
      exact gw_iret CX rfl rfl ⟨_, _, _, rfl, rfl, H⟩ (Nat.zero_le _) (Nat.zero_le _) dShow_placeAt_31
theorem bShow_put_36 {D : va_G} {d : Nat} {Q : (Nat → Nat → Int32) → (Nat → Int64) → Prop} {F : Nat → Nat → Int32} {G : Nat → Int64} {x1 : Int32} {x2 : Int32} {x3 : Int32} {x4 : Int32} (H : AMv D d nShow_setLift [.ref 2, .int x2, .int (-1000000005), .int (-1000000005)] F G (fun F1 G1 => AWv D (d + 1) nShow_put 45 [(0, .ref 2), (1, .int x1), (2, .int x2), (3, .int x3), (4, .int x4)] [] F1 G1 Q)) : AWv D (d + 1) nShow_put 36 [(0, .ref 2), (1, .int x1), (2, .int x2), (3, .int x3), (4, .int x4)] [] F G Q := by
  intro X CX
  refine gw_aload_n CX.1 0 rfl dShow_put_36 rfl ?_
  refine gw_iload_n CX.1 2 rfl dShow_put_37 rfl ?_
  refine gw_ldc CX.1 wc_Show_31 dShow_put_38 ?_
  refine gw_ldc CX.1 wc_Show_31 dShow_put_40 ?_
  refine cl_Show_setLift CX (Nat.le_of_ble_eq_true rfl) wm_Show_46 dShow_put_42 H (fun F1 G1 H => ?_)
  exact H X CX
theorem bShow_put_45 {D : va_G} {d : Nat} {Q : (Nat → Nat → Int32) → (Nat → Int64) → Prop} {F : Nat → Nat → Int32} {G : Nat → Int64} {x1 : Int32} {x2 : Int32} {x3 : Int32} {x4 : Int32} (H : vp_in ((x1 * 30) + x2) 240 ∧ ((¬ x3 = (-1000000005) → vp_in ((x1 * 30) + x2) 240 ∧ Q (up (up F 3 (((x1 * 30) + x2).toNatClampNeg) x3) 4 (((x1 * 30) + x2).toNatClampNeg) x4) G) ∧ (x3 = (-1000000005) → vp_in ((x1 * 30) + x2) 240 ∧ Q (up (up F 3 (((x1 * 30) + x2).toNatClampNeg) x3) 4 (((x1 * 30) + x2).toNatClampNeg) 0) G))) : AWv D (d + 1) nShow_put 45 [(0, .ref 2), (1, .int x1), (2, .int x2), (3, .int x3), (4, .int x4)] [] F G Q := by
  intro X CX
  refine gw_aload_n CX.1 0 rfl dShow_put_45 rfl ?_
  refine gg_Show_19 CX.1 rfl dShow_put_46 ?_
  refine gw_iload_n CX.1 1 rfl dShow_put_49 rfl ?_
  refine gw_bipush (v := 30) CX.1 dShow_put_50 (by decide) ?_
  refine gw_imul CX.1 dShow_put_52 ?_
  refine gw_iload_n CX.1 2 rfl dShow_put_53 rfl ?_
  refine gw_iadd CX.1 dShow_put_54 ?_
  refine gw_iload_n CX.1 3 rfl dShow_put_55 rfl ?_
  obtain ⟨hin, H⟩ := H
  refine gs_3 CX.1 hin dShow_put_56 ?_
  refine gw_aload_n CX.1 0 rfl dShow_put_57 rfl ?_
  refine gg_Show_22 CX.1 rfl dShow_put_58 ?_
  refine gw_iload_n CX.1 1 rfl dShow_put_61 rfl ?_
  refine gw_bipush (v := 30) CX.1 dShow_put_62 (by decide) ?_
  refine gw_imul CX.1 dShow_put_64 ?_
  refine gw_iload_n CX.1 2 rfl dShow_put_65 rfl ?_
  refine gw_iadd CX.1 dShow_put_66 ?_
  refine gw_iload_n CX.1 3 rfl dShow_put_67 rfl ?_
  refine gw_ldc CX.1 wc_Show_31 dShow_put_68 ?_
  refine gw_icmp_ne (tgt := 77) CX.1 dShow_put_70 (by decide) (fun c => ?_) (fun c => ?_)
  · replace H := H.1 c
    refine gw_iload CX.1 4 rfl dShow_put_77 ?_
    obtain ⟨hin, H⟩ := H
    refine gs_4 CX.1 hin dShow_put_79 ?_
    exact gw_vret CX rfl ⟨_, _, rfl, rfl, H⟩ (Nat.zero_le _) (Nat.zero_le _) dShow_put_80
  · replace H := H.2 c
    refine gw_iconst (v := 0) CX.1 dShow_put_73 (by decide) ?_
    refine gw_goto (tgt := 79) CX.1 dShow_put_74 (by decide) ?_
    obtain ⟨hin, H⟩ := H
    refine gs_4 CX.1 hin dShow_put_79 ?_
    exact gw_vret CX rfl ⟨_, _, rfl, rfl, H⟩ (Nat.zero_le _) (Nat.zero_le _) dShow_put_80
theorem eShow_put {D : va_G} {d : Nat} {Q : (Nat → Nat → Int32) → (Nat → Int64) → Prop} {F : Nat → Nat → Int32} {G : Nat → Int64} {a0 : Int32} {a1 : Int32} {a2 : Int32} {a3 : Int32} (H : AMi D d nShow_isTrack [.ref 2, .int a0] F G (fun x1_ F1 G1 => ((x1_ = 0 → Q F1 G1) ∧ (¬ (x1_ = 0) → AMi D d nDesk_isCue [.int a1] F1 G1 (fun x2_ F2 G2 => ((¬ x2_ = 0 → vp_in a1 30 ∧ (((F2 5 a1.toNatClampNeg) = a0 → AWv D (d + 1) nShow_put 36 [(0, .ref 2), (1, .int a0), (2, .int a1), (3, .int a2), (4, .int a3)] [] F2 G2 Q) ∧ (¬ ((F2 5 a1.toNatClampNeg) = a0) → vp_in a1 30 ∧ ((¬ (F2 6 a1.toNatClampNeg) = a0 → AWv D (d + 1) nShow_put 45 [(0, .ref 2), (1, .int a0), (2, .int a1), (3, .int a2), (4, .int a3)] [] F2 G2 Q) ∧ ((F2 6 a1.toNatClampNeg) = a0 → AWv D (d + 1) nShow_put 36 [(0, .ref 2), (1, .int a0), (2, .int a1), (3, .int a2), (4, .int a3)] [] F2 G2 Q))))) ∧ (x2_ = 0 → Q F2 G2))))))) : AMv D (d + 1) nShow_put [.ref 2, .int a0, .int a1, .int a2, .int a3] F G Q := by
  refine AM_intro (by decide) (Nat.le_of_ble_eq_true rfl) ?_
  intro X CX
  refine gw_aload_n CX.1 0 rfl dShow_put_0 rfl ?_
  refine gw_iload_n CX.1 1 rfl dShow_put_1 rfl ?_
  refine cl_Show_isTrack CX (Nat.le_of_ble_eq_true rfl) wm_Show_39 dShow_put_2 H (fun x1_ F1 G1 H => ?_)
  refine gw_if_eq (tgt := 15) CX.1 dShow_put_5 (by decide) (fun c => ?_) (fun c => ?_)
  · replace H := H.1 c
    exact gw_vret CX rfl ⟨_, _, rfl, rfl, H⟩ (Nat.zero_le _) (Nat.zero_le _) dShow_put_15
  · replace H := H.2 c
    refine gw_iload_n CX.1 2 rfl dShow_put_8 rfl ?_
    refine cn_Desk_isCue CX (Nat.le_of_ble_eq_true rfl) wm_Show_43 dShow_put_9 H (fun x2_ F2 G2 H => ?_)
    refine gw_if_ne (tgt := 16) CX.1 dShow_put_12 (by decide) (fun c => ?_) (fun c => ?_)
    · replace H := H.1 c
      refine gw_aload_n CX.1 0 rfl dShow_put_16 rfl ?_
      refine gg_Show_25 CX.1 rfl dShow_put_17 ?_
      refine gw_iload_n CX.1 2 rfl dShow_put_20 rfl ?_
      obtain ⟨hin, H⟩ := H
      refine ga_5 CX.1 hin dShow_put_21 ?_
      refine gw_iload_n CX.1 1 rfl dShow_put_22 rfl ?_
      refine gw_icmp_eq (tgt := 36) CX.1 dShow_put_23 (by decide) (fun c => ?_) (fun c => ?_)
      · replace H := H.1 c
        exact H X CX
      · replace H := H.2 c
        refine gw_aload_n CX.1 0 rfl dShow_put_26 rfl ?_
        refine gg_Show_28 CX.1 rfl dShow_put_27 ?_
        refine gw_iload_n CX.1 2 rfl dShow_put_30 rfl ?_
        obtain ⟨hin, H⟩ := H
        refine ga_6 CX.1 hin dShow_put_31 ?_
        refine gw_iload_n CX.1 1 rfl dShow_put_32 rfl ?_
        refine gw_icmp_ne (tgt := 45) CX.1 dShow_put_33 (by decide) (fun c => ?_) (fun c => ?_)
        · replace H := H.1 c
          exact H X CX
        · replace H := H.2 c
          exact H X CX
    · replace H := H.2 c
      exact gw_vret CX rfl ⟨_, _, rfl, rfl, H⟩ (Nat.zero_le _) (Nat.zero_le _) dShow_put_15
theorem eShow_setLift {D : va_G} {d : Nat} {Q : (Nat → Nat → Int32) → (Nat → Int64) → Prop} {F : Nat → Nat → Int32} {G : Nat → Int64} {a0 : Int32} {a1 : Int32} {a2 : Int32} (H : AMi D d nDesk_isCue [.int a0] F G (fun x1_ F1 G1 => ((x1_ = 0 → Q F1 G1) ∧ (¬ (x1_ = 0) → vp_in a0 30 ∧ vp_in a0 30 ∧ Q (up (up F1 5 (a0.toNatClampNeg) a1) 6 (a0.toNatClampNeg) a2) G1)))) : AMv D (d + 1) nShow_setLift [.ref 2, .int a0, .int a1, .int a2] F G Q := by
  refine AM_intro (by decide) (Nat.le_of_ble_eq_true rfl) ?_
  intro X CX
  refine gw_iload_n CX.1 1 rfl dShow_setLift_0 rfl ?_
  refine cn_Desk_isCue CX (Nat.le_of_ble_eq_true rfl) wm_Show_43 dShow_setLift_1 H (fun x1_ F1 G1 H => ?_)
  refine gw_if_eq (tgt := 21) CX.1 dShow_setLift_4 (by decide) (fun c => ?_) (fun c => ?_)
  · replace H := H.1 c
    exact gw_vret CX rfl ⟨_, _, rfl, rfl, H⟩ (Nat.zero_le _) (Nat.zero_le _) dShow_setLift_21
  · replace H := H.2 c
    refine gw_aload_n CX.1 0 rfl dShow_setLift_7 rfl ?_
    refine gg_Show_25 CX.1 rfl dShow_setLift_8 ?_
    refine gw_iload_n CX.1 1 rfl dShow_setLift_11 rfl ?_
    refine gw_iload_n CX.1 2 rfl dShow_setLift_12 rfl ?_
    obtain ⟨hin, H⟩ := H
    refine gs_5 CX.1 hin dShow_setLift_13 ?_
    refine gw_aload_n CX.1 0 rfl dShow_setLift_14 rfl ?_
    refine gg_Show_28 CX.1 rfl dShow_setLift_15 ?_
    refine gw_iload_n CX.1 1 rfl dShow_setLift_18 rfl ?_
    refine gw_iload_n CX.1 3 rfl dShow_setLift_19 rfl ?_
    obtain ⟨hin, H⟩ := H
    refine gs_6 CX.1 hin dShow_setLift_20 ?_
    exact gw_vret CX rfl ⟨_, _, rfl, rfl, H⟩ (Nat.zero_le _) (Nat.zero_le _) dShow_setLift_21
theorem eShow_hasLift {D : va_G} {d : Nat} {Q : Int32 → (Nat → Nat → Int32) → (Nat → Int64) → Prop} {F : Nat → Nat → Int32} {G : Nat → Int64} {a0 : Int32} (H : AMi D d nShow_lifterIn [.ref 2, .int a0] F G (fun x1_ F1 G1 => ((x1_ = (-1000000005) → Q 0 F1 G1) ∧ (¬ (x1_ = (-1000000005)) → Q 1 F1 G1)))) : AMi D (d + 1) nShow_hasLift [.ref 2, .int a0] F G Q := by
  refine AM_intro (by decide) (Nat.le_of_ble_eq_true rfl) ?_
  intro X CX
  refine gw_aload_n CX.1 0 rfl dShow_hasLift_0 rfl ?_
  refine gw_iload_n CX.1 1 rfl dShow_hasLift_1 rfl ?_
  refine cl_Show_lifterIn CX (Nat.le_of_ble_eq_true rfl) wm_Show_50 dShow_hasLift_2 H (fun x1_ F1 G1 H => ?_)
  refine gw_ldc CX.1 wc_Show_31 dShow_hasLift_5 ?_
  refine gw_icmp_eq (tgt := 14) CX.1 dShow_hasLift_7 (by decide) (fun c => ?_) (fun c => ?_)
  · replace H := H.1 c
    refine gw_iconst (v := 0) CX.1 dShow_hasLift_14 (by decide) ?_
    exact gw_iret CX rfl (by decide) ⟨_, _, _, rfl, rfl, H⟩ (Nat.zero_le _) (Nat.zero_le _) dShow_hasLift_15
  · replace H := H.2 c
    refine gw_iconst (v := 1) CX.1 dShow_hasLift_10 (by decide) ?_
    refine gw_goto (tgt := 15) CX.1 dShow_hasLift_11 (by decide) ?_
    exact gw_iret CX rfl (by decide) ⟨_, _, _, rfl, rfl, H⟩ (Nat.zero_le _) (Nat.zero_le _) dShow_hasLift_15
theorem eShow_lifterIn {D : va_G} {d : Nat} {Q : Int32 → (Nat → Nat → Int32) → (Nat → Int64) → Prop} {F : Nat → Nat → Int32} {G : Nat → Int64} {a0 : Int32} (H : AMi D d nDesk_isCue [.int a0] F G (fun x1_ F1 G1 => ((x1_ = 0 → Q (-1000000005) F1 G1) ∧ (¬ (x1_ = 0) → vp_in a0 30 ∧ Q (F1 5 a0.toNatClampNeg) F1 G1)))) : AMi D (d + 1) nShow_lifterIn [.ref 2, .int a0] F G Q := by
  refine AM_intro (by decide) (Nat.le_of_ble_eq_true rfl) ?_
  intro X CX
  refine gw_iload_n CX.1 1 rfl dShow_lifterIn_0 rfl ?_
  refine cn_Desk_isCue CX (Nat.le_of_ble_eq_true rfl) wm_Show_43 dShow_lifterIn_1 H (fun x1_ F1 G1 H => ?_)
  refine gw_if_eq (tgt := 16) CX.1 dShow_lifterIn_4 (by decide) (fun c => ?_) (fun c => ?_)
  · replace H := H.1 c
    refine gw_ldc CX.1 wc_Show_31 dShow_lifterIn_16 ?_
    exact gw_iret CX rfl rfl ⟨_, _, _, rfl, rfl, H⟩ (Nat.zero_le _) (Nat.zero_le _) dShow_lifterIn_18
  · replace H := H.2 c
    refine gw_aload_n CX.1 0 rfl dShow_lifterIn_7 rfl ?_
    refine gg_Show_25 CX.1 rfl dShow_lifterIn_8 ?_
    refine gw_iload_n CX.1 1 rfl dShow_lifterIn_11 rfl ?_
    obtain ⟨hin, H⟩ := H
    refine ga_5 CX.1 hin dShow_lifterIn_12 ?_
    refine gw_goto (tgt := 18) CX.1 dShow_lifterIn_13 (by decide) ?_
    exact gw_iret CX rfl rfl ⟨_, _, _, rfl, rfl, H⟩ (Nat.zero_le _) (Nat.zero_le _) dShow_lifterIn_18
theorem eShow_isIn {D : va_G} {d : Nat} {Q : Int32 → (Nat → Nat → Int32) → (Nat → Int64) → Prop} {F : Nat → Nat → Int32} {G : Nat → Int64} {a0 : Int32} {a1 : Int32} (H : AMi D d nShow_isTrack [.ref 2, .int a0] F G (fun x1_ F1 G1 => ((x1_ = 0 → Q 0 F1 G1) ∧ (¬ (x1_ = 0) → AMi D d nDesk_isCue [.int a1] F1 G1 (fun x2_ F2 G2 => ((x2_ = 0 → Q 0 F2 G2) ∧ (¬ (x2_ = 0) → vp_in ((a0 * 30) + a1) 240 ∧ (((F2 3 ((a0 * 30) + a1).toNatClampNeg) = (-1000000005) → Q 0 F2 G2) ∧ (¬ ((F2 3 ((a0 * 30) + a1).toNatClampNeg) = (-1000000005)) → Q 1 F2 G2))))))))) : AMi D (d + 1) nShow_isIn [.ref 2, .int a0, .int a1] F G Q := by
  refine AM_intro (by decide) (Nat.le_of_ble_eq_true rfl) ?_
  intro X CX
  refine gw_aload_n CX.1 0 rfl dShow_isIn_0 rfl ?_
  refine gw_iload_n CX.1 1 rfl dShow_isIn_1 rfl ?_
  refine cl_Show_isTrack CX (Nat.le_of_ble_eq_true rfl) wm_Show_39 dShow_isIn_2 H (fun x1_ F1 G1 H => ?_)
  refine gw_if_eq (tgt := 35) CX.1 dShow_isIn_5 (by decide) (fun c => ?_) (fun c => ?_)
  · replace H := H.1 c
    refine gw_iconst (v := 0) CX.1 dShow_isIn_35 (by decide) ?_
    exact gw_iret CX rfl (by decide) ⟨_, _, _, rfl, rfl, H⟩ (Nat.zero_le _) (Nat.zero_le _) dShow_isIn_36
  · replace H := H.2 c
    refine gw_iload_n CX.1 2 rfl dShow_isIn_8 rfl ?_
    refine cn_Desk_isCue CX (Nat.le_of_ble_eq_true rfl) wm_Show_43 dShow_isIn_9 H (fun x2_ F2 G2 H => ?_)
    refine gw_if_eq (tgt := 35) CX.1 dShow_isIn_12 (by decide) (fun c => ?_) (fun c => ?_)
    · replace H := H.1 c
      refine gw_iconst (v := 0) CX.1 dShow_isIn_35 (by decide) ?_
      exact gw_iret CX rfl (by decide) ⟨_, _, _, rfl, rfl, H⟩ (Nat.zero_le _) (Nat.zero_le _) dShow_isIn_36
    · replace H := H.2 c
      refine gw_aload_n CX.1 0 rfl dShow_isIn_15 rfl ?_
      refine gg_Show_19 CX.1 rfl dShow_isIn_16 ?_
      refine gw_iload_n CX.1 1 rfl dShow_isIn_19 rfl ?_
      refine gw_bipush (v := 30) CX.1 dShow_isIn_20 (by decide) ?_
      refine gw_imul CX.1 dShow_isIn_22 ?_
      refine gw_iload_n CX.1 2 rfl dShow_isIn_23 rfl ?_
      refine gw_iadd CX.1 dShow_isIn_24 ?_
      obtain ⟨hin, H⟩ := H
      refine ga_3 CX.1 hin dShow_isIn_25 ?_
      refine gw_ldc CX.1 wc_Show_31 dShow_isIn_26 ?_
      refine gw_icmp_eq (tgt := 35) CX.1 dShow_isIn_28 (by decide) (fun c => ?_) (fun c => ?_)
      · replace H := H.1 c
        refine gw_iconst (v := 0) CX.1 dShow_isIn_35 (by decide) ?_
        exact gw_iret CX rfl (by decide) ⟨_, _, _, rfl, rfl, H⟩ (Nat.zero_le _) (Nat.zero_le _) dShow_isIn_36
      · replace H := H.2 c
        refine gw_iconst (v := 1) CX.1 dShow_isIn_31 (by decide) ?_
        refine gw_goto (tgt := 36) CX.1 dShow_isIn_32 (by decide) ?_
        exact gw_iret CX rfl (by decide) ⟨_, _, _, rfl, rfl, H⟩ (Nat.zero_le _) (Nat.zero_le _) dShow_isIn_36
theorem eSheet_isMissing_0 {D : va_G} {d : Nat} {Q : Int32 → (Nat → Nat → Int32) → (Nat → Int64) → Prop} {F : Nat → Nat → Int32} {G : Nat → Int64} (H : ((¬ (F 108 0) = (-1) → Q 0 F G) ∧ ((F 108 0) = (-1) → Q 1 F G))) : AMi D (d + 1) nSheet_isMissing [.ref 35] F G Q := by
  refine AM_intro (by decide) (Nat.le_of_ble_eq_true rfl) ?_
  intro X CX
  refine gw_aload_n CX.1 0 rfl dSheet_isMissing_0 rfl ?_
  refine gg_Sheet_11_0 CX.1 rfl dSheet_isMissing_1 ?_
  refine gw_iconst (v := (-1)) CX.1 dSheet_isMissing_4 (by decide) ?_
  refine gw_icmp_ne (tgt := 12) CX.1 dSheet_isMissing_5 (by decide) (fun c => ?_) (fun c => ?_)
  · replace H := H.1 c
    refine gw_iconst (v := 0) CX.1 dSheet_isMissing_12 (by decide) ?_
    exact gw_iret CX rfl (by decide) ⟨_, _, _, rfl, rfl, H⟩ (Nat.zero_le _) (Nat.zero_le _) dSheet_isMissing_13
  · replace H := H.2 c
    refine gw_iconst (v := 1) CX.1 dSheet_isMissing_8 (by decide) ?_
    refine gw_goto (tgt := 13) CX.1 dSheet_isMissing_9 (by decide) ?_
    exact gw_iret CX rfl (by decide) ⟨_, _, _, rfl, rfl, H⟩ (Nat.zero_le _) (Nat.zero_le _) dSheet_isMissing_13
theorem eSheet_isMissing_1 {D : va_G} {d : Nat} {Q : Int32 → (Nat → Nat → Int32) → (Nat → Int64) → Prop} {F : Nat → Nat → Int32} {G : Nat → Int64} (H : ((¬ (F 109 0) = (-1) → Q 0 F G) ∧ ((F 109 0) = (-1) → Q 1 F G))) : AMi D (d + 1) nSheet_isMissing [.ref 37] F G Q := by
  refine AM_intro (by decide) (Nat.le_of_ble_eq_true rfl) ?_
  intro X CX
  refine gw_aload_n CX.1 0 rfl dSheet_isMissing_0 rfl ?_
  refine gg_Sheet_11_1 CX.1 rfl dSheet_isMissing_1 ?_
  refine gw_iconst (v := (-1)) CX.1 dSheet_isMissing_4 (by decide) ?_
  refine gw_icmp_ne (tgt := 12) CX.1 dSheet_isMissing_5 (by decide) (fun c => ?_) (fun c => ?_)
  · replace H := H.1 c
    refine gw_iconst (v := 0) CX.1 dSheet_isMissing_12 (by decide) ?_
    exact gw_iret CX rfl (by decide) ⟨_, _, _, rfl, rfl, H⟩ (Nat.zero_le _) (Nat.zero_le _) dSheet_isMissing_13
  · replace H := H.2 c
    refine gw_iconst (v := 1) CX.1 dSheet_isMissing_8 (by decide) ?_
    refine gw_goto (tgt := 13) CX.1 dSheet_isMissing_9 (by decide) ?_
    exact gw_iret CX rfl (by decide) ⟨_, _, _, rfl, rfl, H⟩ (Nat.zero_le _) (Nat.zero_le _) dSheet_isMissing_13
theorem eSheet_length_0 {D : va_G} {d : Nat} {Q : Int32 → (Nat → Nat → Int32) → (Nat → Int64) → Prop} {F : Nat → Nat → Int32} {G : Nat → Int64} (H : Q (F 108 0) F G) : AMi D (d + 1) nSheet_length [.ref 35] F G Q := by
  refine AM_intro (by decide) (Nat.le_of_ble_eq_true rfl) ?_
  intro X CX
  refine gw_aload_n CX.1 0 rfl dSheet_length_0 rfl ?_
  refine gg_Sheet_11_0 CX.1 rfl dSheet_length_1 ?_
  exact gw_iret CX rfl rfl ⟨_, _, _, rfl, rfl, H⟩ (Nat.zero_le _) (Nat.zero_le _) dSheet_length_4
theorem eSheet_length_1 {D : va_G} {d : Nat} {Q : Int32 → (Nat → Nat → Int32) → (Nat → Int64) → Prop} {F : Nat → Nat → Int32} {G : Nat → Int64} (H : Q (F 109 0) F G) : AMi D (d + 1) nSheet_length [.ref 37] F G Q := by
  refine AM_intro (by decide) (Nat.le_of_ble_eq_true rfl) ?_
  intro X CX
  refine gw_aload_n CX.1 0 rfl dSheet_length_0 rfl ?_
  refine gg_Sheet_11_1 CX.1 rfl dSheet_length_1 ?_
  exact gw_iret CX rfl rfl ⟨_, _, _, rfl, rfl, H⟩ (Nat.zero_le _) (Nat.zero_le _) dSheet_length_4
theorem eSheet_valueAt_0 {D : va_G} {d : Nat} {Q : Int32 → (Nat → Nat → Int32) → (Nat → Int64) → Prop} {F : Nat → Nat → Int32} {G : Nat → Int64} {a0 : Int32} (H : AMi D d nSheet_hasRun [.ref 35, .int a0, .int 1] F G (fun x1_ F1 G1 => ((x1_ = 0 → Q 0 F1 G1) ∧ (¬ (x1_ = 0) → vp_in a0 30 ∧ Q (F1 35 a0.toNatClampNeg) F1 G1)))) : AMi D (d + 1) nSheet_valueAt [.ref 35, .int a0] F G Q := by
  refine AM_intro (by decide) (Nat.le_of_ble_eq_true rfl) ?_
  intro X CX
  refine gw_aload_n CX.1 0 rfl dSheet_valueAt_0 rfl ?_
  refine gw_iload_n CX.1 1 rfl dSheet_valueAt_1 rfl ?_
  refine gw_iconst (v := 1) CX.1 dSheet_valueAt_2 (by decide) ?_
  refine cl_Sheet_hasRun_0 CX (Nat.le_of_ble_eq_true rfl) wm_Sheet_29 dSheet_valueAt_3 H (fun x1_ F1 G1 H => ?_)
  refine gw_if_eq (tgt := 18) CX.1 dSheet_valueAt_6 (by decide) (fun c => ?_) (fun c => ?_)
  · replace H := H.1 c
    refine gw_iconst (v := 0) CX.1 dSheet_valueAt_18 (by decide) ?_
    exact gw_iret CX rfl rfl ⟨_, _, _, rfl, rfl, H⟩ (Nat.zero_le _) (Nat.zero_le _) dSheet_valueAt_19
  · replace H := H.2 c
    refine gw_aload_n CX.1 0 rfl dSheet_valueAt_9 rfl ?_
    refine gg_Sheet_15_0 CX.1 rfl dSheet_valueAt_10 ?_
    refine gw_iload_n CX.1 1 rfl dSheet_valueAt_13 rfl ?_
    obtain ⟨hin, H⟩ := H
    refine ga_35 CX.1 hin dSheet_valueAt_14 ?_
    refine gw_goto (tgt := 19) CX.1 dSheet_valueAt_15 (by decide) ?_
    exact gw_iret CX rfl rfl ⟨_, _, _, rfl, rfl, H⟩ (Nat.zero_le _) (Nat.zero_le _) dSheet_valueAt_19
theorem eSheet_valueAt_1 {D : va_G} {d : Nat} {Q : Int32 → (Nat → Nat → Int32) → (Nat → Int64) → Prop} {F : Nat → Nat → Int32} {G : Nat → Int64} {a0 : Int32} (H : AMi D d nSheet_hasRun [.ref 37, .int a0, .int 1] F G (fun x1_ F1 G1 => ((x1_ = 0 → Q 0 F1 G1) ∧ (¬ (x1_ = 0) → vp_in a0 30 ∧ Q (F1 37 a0.toNatClampNeg) F1 G1)))) : AMi D (d + 1) nSheet_valueAt [.ref 37, .int a0] F G Q := by
  refine AM_intro (by decide) (Nat.le_of_ble_eq_true rfl) ?_
  intro X CX
  refine gw_aload_n CX.1 0 rfl dSheet_valueAt_0 rfl ?_
  refine gw_iload_n CX.1 1 rfl dSheet_valueAt_1 rfl ?_
  refine gw_iconst (v := 1) CX.1 dSheet_valueAt_2 (by decide) ?_
  refine cl_Sheet_hasRun_1 CX (Nat.le_of_ble_eq_true rfl) wm_Sheet_29 dSheet_valueAt_3 H (fun x1_ F1 G1 H => ?_)
  refine gw_if_eq (tgt := 18) CX.1 dSheet_valueAt_6 (by decide) (fun c => ?_) (fun c => ?_)
  · replace H := H.1 c
    refine gw_iconst (v := 0) CX.1 dSheet_valueAt_18 (by decide) ?_
    exact gw_iret CX rfl rfl ⟨_, _, _, rfl, rfl, H⟩ (Nat.zero_le _) (Nat.zero_le _) dSheet_valueAt_19
  · replace H := H.2 c
    refine gw_aload_n CX.1 0 rfl dSheet_valueAt_9 rfl ?_
    refine gg_Sheet_15_1 CX.1 rfl dSheet_valueAt_10 ?_
    refine gw_iload_n CX.1 1 rfl dSheet_valueAt_13 rfl ?_
    obtain ⟨hin, H⟩ := H
    refine ga_37 CX.1 hin dSheet_valueAt_14 ?_
    refine gw_goto (tgt := 19) CX.1 dSheet_valueAt_15 (by decide) ?_
    exact gw_iret CX rfl rfl ⟨_, _, _, rfl, rfl, H⟩ (Nat.zero_le _) (Nat.zero_le _) dSheet_valueAt_19
theorem eSheet_hasRun_0 {D : va_G} {d : Nat} {Q : Int32 → (Nat → Nat → Int32) → (Nat → Int64) → Prop} {F : Nat → Nat → Int32} {G : Nat → Int64} {a0 : Int32} {a1 : Int32} (H : AMi D d nDesk_isWithin [.int a0, .int 0, .int (F 108 0)] F G (fun x1_ F1 G1 => ((x1_ = 0 → Q 0 F1 G1) ∧ (¬ (x1_ = 0) → AMi D d nDesk_isWithin [.int a1, .int 0, .int ((F1 108 0) - a0)] F1 G1 (fun x2_ F2 G2 => ((x2_ = 0 → Q 0 F2 G2) ∧ (¬ (x2_ = 0) → Q 1 F2 G2))))))) : AMi D (d + 1) nSheet_hasRun [.ref 35, .int a0, .int a1] F G Q := by
  refine AM_intro (by decide) (Nat.le_of_ble_eq_true rfl) ?_
  intro X CX
  refine gw_iload_n CX.1 1 rfl dSheet_hasRun_0 rfl ?_
  refine gw_iconst (v := 0) CX.1 dSheet_hasRun_1 (by decide) ?_
  refine gw_aload_n CX.1 0 rfl dSheet_hasRun_2 rfl ?_
  refine gg_Sheet_11_0 CX.1 rfl dSheet_hasRun_3 ?_
  refine cn_Desk_isWithin CX (Nat.le_of_ble_eq_true rfl) wm_Sheet_19 dSheet_hasRun_6 H (fun x1_ F1 G1 H => ?_)
  refine gw_if_eq (tgt := 30) CX.1 dSheet_hasRun_9 (by decide) (fun c => ?_) (fun c => ?_)
  · replace H := H.1 c
    refine gw_iconst (v := 0) CX.1 dSheet_hasRun_30 (by decide) ?_
    exact gw_iret CX rfl (by decide) ⟨_, _, _, rfl, rfl, H⟩ (Nat.zero_le _) (Nat.zero_le _) dSheet_hasRun_31
  · replace H := H.2 c
    refine gw_iload_n CX.1 2 rfl dSheet_hasRun_12 rfl ?_
    refine gw_iconst (v := 0) CX.1 dSheet_hasRun_13 (by decide) ?_
    refine gw_aload_n CX.1 0 rfl dSheet_hasRun_14 rfl ?_
    refine gg_Sheet_11_0 CX.1 rfl dSheet_hasRun_15 ?_
    refine gw_iload_n CX.1 1 rfl dSheet_hasRun_18 rfl ?_
    refine gw_isub CX.1 dSheet_hasRun_19 ?_
    refine cn_Desk_isWithin CX (Nat.le_of_ble_eq_true rfl) wm_Sheet_19 dSheet_hasRun_20 H (fun x2_ F2 G2 H => ?_)
    refine gw_if_eq (tgt := 30) CX.1 dSheet_hasRun_23 (by decide) (fun c => ?_) (fun c => ?_)
    · replace H := H.1 c
      refine gw_iconst (v := 0) CX.1 dSheet_hasRun_30 (by decide) ?_
      exact gw_iret CX rfl (by decide) ⟨_, _, _, rfl, rfl, H⟩ (Nat.zero_le _) (Nat.zero_le _) dSheet_hasRun_31
    · replace H := H.2 c
      refine gw_iconst (v := 1) CX.1 dSheet_hasRun_26 (by decide) ?_
      refine gw_goto (tgt := 31) CX.1 dSheet_hasRun_27 (by decide) ?_
      exact gw_iret CX rfl (by decide) ⟨_, _, _, rfl, rfl, H⟩ (Nat.zero_le _) (Nat.zero_le _) dSheet_hasRun_31
theorem eSheet_hasRun_1 {D : va_G} {d : Nat} {Q : Int32 → (Nat → Nat → Int32) → (Nat → Int64) → Prop} {F : Nat → Nat → Int32} {G : Nat → Int64} {a0 : Int32} {a1 : Int32} (H : AMi D d nDesk_isWithin [.int a0, .int 0, .int (F 109 0)] F G (fun x1_ F1 G1 => ((x1_ = 0 → Q 0 F1 G1) ∧ (¬ (x1_ = 0) → AMi D d nDesk_isWithin [.int a1, .int 0, .int ((F1 109 0) - a0)] F1 G1 (fun x2_ F2 G2 => ((x2_ = 0 → Q 0 F2 G2) ∧ (¬ (x2_ = 0) → Q 1 F2 G2))))))) : AMi D (d + 1) nSheet_hasRun [.ref 37, .int a0, .int a1] F G Q := by
  refine AM_intro (by decide) (Nat.le_of_ble_eq_true rfl) ?_
  intro X CX
  refine gw_iload_n CX.1 1 rfl dSheet_hasRun_0 rfl ?_
  refine gw_iconst (v := 0) CX.1 dSheet_hasRun_1 (by decide) ?_
  refine gw_aload_n CX.1 0 rfl dSheet_hasRun_2 rfl ?_
  refine gg_Sheet_11_1 CX.1 rfl dSheet_hasRun_3 ?_
  refine cn_Desk_isWithin CX (Nat.le_of_ble_eq_true rfl) wm_Sheet_19 dSheet_hasRun_6 H (fun x1_ F1 G1 H => ?_)
  refine gw_if_eq (tgt := 30) CX.1 dSheet_hasRun_9 (by decide) (fun c => ?_) (fun c => ?_)
  · replace H := H.1 c
    refine gw_iconst (v := 0) CX.1 dSheet_hasRun_30 (by decide) ?_
    exact gw_iret CX rfl (by decide) ⟨_, _, _, rfl, rfl, H⟩ (Nat.zero_le _) (Nat.zero_le _) dSheet_hasRun_31
  · replace H := H.2 c
    refine gw_iload_n CX.1 2 rfl dSheet_hasRun_12 rfl ?_
    refine gw_iconst (v := 0) CX.1 dSheet_hasRun_13 (by decide) ?_
    refine gw_aload_n CX.1 0 rfl dSheet_hasRun_14 rfl ?_
    refine gg_Sheet_11_1 CX.1 rfl dSheet_hasRun_15 ?_
    refine gw_iload_n CX.1 1 rfl dSheet_hasRun_18 rfl ?_
    refine gw_isub CX.1 dSheet_hasRun_19 ?_
    refine cn_Desk_isWithin CX (Nat.le_of_ble_eq_true rfl) wm_Sheet_19 dSheet_hasRun_20 H (fun x2_ F2 G2 H => ?_)
    refine gw_if_eq (tgt := 30) CX.1 dSheet_hasRun_23 (by decide) (fun c => ?_) (fun c => ?_)
    · replace H := H.1 c
      refine gw_iconst (v := 0) CX.1 dSheet_hasRun_30 (by decide) ?_
      exact gw_iret CX rfl (by decide) ⟨_, _, _, rfl, rfl, H⟩ (Nat.zero_le _) (Nat.zero_le _) dSheet_hasRun_31
    · replace H := H.2 c
      refine gw_iconst (v := 1) CX.1 dSheet_hasRun_26 (by decide) ?_
      refine gw_goto (tgt := 31) CX.1 dSheet_hasRun_27 (by decide) ?_
      exact gw_iret CX rfl (by decide) ⟨_, _, _, rfl, rfl, H⟩ (Nat.zero_le _) (Nat.zero_le _) dSheet_hasRun_31
theorem eShow_mustAt {D : va_G} {d : Nat} {Q : Int32 → (Nat → Nat → Int32) → (Nat → Int64) → Prop} {F : Nat → Nat → Int32} {G : Nat → Int64} {a0 : Int32} {a1 : Int32} (H : AMi D d nShow_isTrack [.ref 2, .int a0] F G (fun x1_ F1 G1 => ((x1_ = 0 → Q 0 F1 G1) ∧ (¬ (x1_ = 0) → AMi D d nDesk_isCue [.int a1] F1 G1 (fun x2_ F2 G2 => ((x2_ = 0 → Q 0 F2 G2) ∧ (¬ (x2_ = 0) → vp_in ((a0 * 30) + a1) 240 ∧ Q (F2 4 ((a0 * 30) + a1).toNatClampNeg) F2 G2))))))) : AMi D (d + 1) nShow_mustAt [.ref 2, .int a0, .int a1] F G Q := by
  refine AM_intro (by decide) (Nat.le_of_ble_eq_true rfl) ?_
  intro X CX
  refine gw_aload_n CX.1 0 rfl dShow_mustAt_0 rfl ?_
  refine gw_iload_n CX.1 1 rfl dShow_mustAt_1 rfl ?_
  refine cl_Show_isTrack CX (Nat.le_of_ble_eq_true rfl) wm_Show_39 dShow_mustAt_2 H (fun x1_ F1 G1 H => ?_)
  refine gw_if_eq (tgt := 29) CX.1 dShow_mustAt_5 (by decide) (fun c => ?_) (fun c => ?_)
  · replace H := H.1 c
    refine gw_iconst (v := 0) CX.1 dShow_mustAt_29 (by decide) ?_
    exact gw_iret CX rfl rfl ⟨_, _, _, rfl, rfl, H⟩ (Nat.zero_le _) (Nat.zero_le _) dShow_mustAt_30
  · replace H := H.2 c
    refine gw_iload_n CX.1 2 rfl dShow_mustAt_8 rfl ?_
    refine cn_Desk_isCue CX (Nat.le_of_ble_eq_true rfl) wm_Show_43 dShow_mustAt_9 H (fun x2_ F2 G2 H => ?_)
    refine gw_if_eq (tgt := 29) CX.1 dShow_mustAt_12 (by decide) (fun c => ?_) (fun c => ?_)
    · replace H := H.1 c
      refine gw_iconst (v := 0) CX.1 dShow_mustAt_29 (by decide) ?_
      exact gw_iret CX rfl rfl ⟨_, _, _, rfl, rfl, H⟩ (Nat.zero_le _) (Nat.zero_le _) dShow_mustAt_30
    · replace H := H.2 c
      refine gw_aload_n CX.1 0 rfl dShow_mustAt_15 rfl ?_
      refine gg_Show_22 CX.1 rfl dShow_mustAt_16 ?_
      refine gw_iload_n CX.1 1 rfl dShow_mustAt_19 rfl ?_
      refine gw_bipush (v := 30) CX.1 dShow_mustAt_20 (by decide) ?_
      refine gw_imul CX.1 dShow_mustAt_22 ?_
      refine gw_iload_n CX.1 2 rfl dShow_mustAt_23 rfl ?_
      refine gw_iadd CX.1 dShow_mustAt_24 ?_
      obtain ⟨hin, H⟩ := H
      refine ga_4 CX.1 hin dShow_mustAt_25 ?_
      refine gw_goto (tgt := 30) CX.1 dShow_mustAt_26 (by decide) ?_
      exact gw_iret CX rfl rfl ⟨_, _, _, rfl, rfl, H⟩ (Nat.zero_le _) (Nat.zero_le _) dShow_mustAt_30
theorem eShow_liftPartner {D : va_G} {d : Nat} {Q : Int32 → (Nat → Nat → Int32) → (Nat → Int64) → Prop} {F : Nat → Nat → Int32} {G : Nat → Int64} {a0 : Int32} {a1 : Int32} (H : AMi D d nShow_lifterIn [.ref 2, .int a1] F G (fun x1_ F1 G1 => ((¬ x1_ = a0 → AMi D d nShow_liftedIn [.ref 2, .int a1] F1 G1 (fun x2_ F2 G2 => ((¬ x2_ = a0 → Q (-1000000005) F2 G2) ∧ (x2_ = a0 → AMi D d nShow_lifterIn [.ref 2, .int a1] F2 G2 (fun x3_ F3 G3 => Q x3_ F3 G3))))) ∧ (x1_ = a0 → AMi D d nShow_liftedIn [.ref 2, .int a1] F1 G1 (fun x4_ F4 G4 => Q x4_ F4 G4))))) : AMi D (d + 1) nShow_liftPartner [.ref 2, .int a0, .int a1] F G Q := by
  refine AM_intro (by decide) (Nat.le_of_ble_eq_true rfl) ?_
  intro X CX
  refine gw_aload_n CX.1 0 rfl dShow_liftPartner_0 rfl ?_
  refine gw_iload_n CX.1 2 rfl dShow_liftPartner_1 rfl ?_
  refine cl_Show_lifterIn CX (Nat.le_of_ble_eq_true rfl) wm_Show_50 dShow_liftPartner_2 H (fun x1_ F1 G1 H => ?_)
  refine gw_iload_n CX.1 1 rfl dShow_liftPartner_5 rfl ?_
  refine gw_icmp_ne (tgt := 15) CX.1 dShow_liftPartner_6 (by decide) (fun c => ?_) (fun c => ?_)
  · replace H := H.1 c
    refine gw_aload_n CX.1 0 rfl dShow_liftPartner_15 rfl ?_
    refine gw_iload_n CX.1 2 rfl dShow_liftPartner_16 rfl ?_
    refine cl_Show_liftedIn CX (Nat.le_of_ble_eq_true rfl) wm_Show_54 dShow_liftPartner_17 H (fun x2_ F2 G2 H => ?_)
    refine gw_iload_n CX.1 1 rfl dShow_liftPartner_20 rfl ?_
    refine gw_icmp_ne (tgt := 32) CX.1 dShow_liftPartner_21 (by decide) (fun c => ?_) (fun c => ?_)
    · replace H := H.1 c
      refine gw_ldc CX.1 wc_Show_31 dShow_liftPartner_32 ?_
      exact gw_iret CX rfl rfl ⟨_, _, _, rfl, rfl, H⟩ (Nat.zero_le _) (Nat.zero_le _) dShow_liftPartner_34
    · replace H := H.2 c
      refine gw_aload_n CX.1 0 rfl dShow_liftPartner_24 rfl ?_
      refine gw_iload_n CX.1 2 rfl dShow_liftPartner_25 rfl ?_
      refine cl_Show_lifterIn CX (Nat.le_of_ble_eq_true rfl) wm_Show_50 dShow_liftPartner_26 H (fun x3_ F3 G3 H => ?_)
      refine gw_goto (tgt := 34) CX.1 dShow_liftPartner_29 (by decide) ?_
      exact gw_iret CX rfl rfl ⟨_, _, _, rfl, rfl, H⟩ (Nat.zero_le _) (Nat.zero_le _) dShow_liftPartner_34
  · replace H := H.2 c
    refine gw_aload_n CX.1 0 rfl dShow_liftPartner_9 rfl ?_
    refine gw_iload_n CX.1 2 rfl dShow_liftPartner_10 rfl ?_
    refine cl_Show_liftedIn CX (Nat.le_of_ble_eq_true rfl) wm_Show_54 dShow_liftPartner_11 H (fun x4_ F4 G4 H => ?_)
    exact gw_iret CX rfl rfl ⟨_, _, _, rfl, rfl, H⟩ (Nat.zero_le _) (Nat.zero_le _) dShow_liftPartner_14
theorem eShow_liftedIn {D : va_G} {d : Nat} {Q : Int32 → (Nat → Nat → Int32) → (Nat → Int64) → Prop} {F : Nat → Nat → Int32} {G : Nat → Int64} {a0 : Int32} (H : AMi D d nDesk_isCue [.int a0] F G (fun x1_ F1 G1 => ((x1_ = 0 → Q (-1000000005) F1 G1) ∧ (¬ (x1_ = 0) → vp_in a0 30 ∧ Q (F1 6 a0.toNatClampNeg) F1 G1)))) : AMi D (d + 1) nShow_liftedIn [.ref 2, .int a0] F G Q := by
  refine AM_intro (by decide) (Nat.le_of_ble_eq_true rfl) ?_
  intro X CX
  refine gw_iload_n CX.1 1 rfl dShow_liftedIn_0 rfl ?_
  refine cn_Desk_isCue CX (Nat.le_of_ble_eq_true rfl) wm_Show_43 dShow_liftedIn_1 H (fun x1_ F1 G1 H => ?_)
  refine gw_if_eq (tgt := 16) CX.1 dShow_liftedIn_4 (by decide) (fun c => ?_) (fun c => ?_)
  · replace H := H.1 c
    refine gw_ldc CX.1 wc_Show_31 dShow_liftedIn_16 ?_
    exact gw_iret CX rfl rfl ⟨_, _, _, rfl, rfl, H⟩ (Nat.zero_le _) (Nat.zero_le _) dShow_liftedIn_18
  · replace H := H.2 c
    refine gw_aload_n CX.1 0 rfl dShow_liftedIn_7 rfl ?_
    refine gg_Show_28 CX.1 rfl dShow_liftedIn_8 ?_
    refine gw_iload_n CX.1 1 rfl dShow_liftedIn_11 rfl ?_
    obtain ⟨hin, H⟩ := H
    refine ga_6 CX.1 hin dShow_liftedIn_12 ?_
    refine gw_goto (tgt := 18) CX.1 dShow_liftedIn_13 (by decide) ?_
    exact gw_iret CX rfl rfl ⟨_, _, _, rfl, rfl, H⟩ (Nat.zero_le _) (Nat.zero_le _) dShow_liftedIn_18
theorem eDesk_isKind {D : va_G} {d : Nat} {Q : Int32 → (Nat → Nat → Int32) → (Nat → Int64) → Prop} {F : Nat → Nat → Int32} {G : Nat → Int64} {a0 : Int32} (H : AMi D d nDesk_isWithin [.int a0, .int 0, .int 3] F G (fun x1_ F1 G1 => narrow .boolean (.int x1_) = .int x1_ ∧ Q x1_ F1 G1)) : AMi D (d + 1) nDesk_isKind [.int a0] F G Q := by
  refine AM_intro (by decide) (Nat.le_of_ble_eq_true rfl) ?_
  intro X CX
  refine gw_iload_n CX.1 0 rfl dDesk_isKind_0 rfl ?_
  refine gw_iconst (v := 0) CX.1 dDesk_isKind_1 (by decide) ?_
  refine gw_iconst (v := 3) CX.1 dDesk_isKind_2 (by decide) ?_
  refine cl_Desk_isWithin CX (Nat.le_of_ble_eq_true rfl) wm_Desk_53 dDesk_isKind_3 H (fun x1_ F1 G1 H => ?_)
  obtain ⟨hn, H⟩ := H
  exact gw_iret CX rfl hn ⟨_, _, _, rfl, rfl, H⟩ (Nat.zero_le _) (Nat.zero_le _) dDesk_isKind_6
theorem eShow_tracks {D : va_G} {d : Nat} {Q : Int32 → (Nat → Nat → Int32) → (Nat → Int64) → Prop} {F : Nat → Nat → Int32} {G : Nat → Int64} (H : Q (F 100 0) F G) : AMi D (d + 1) nShow_tracks [.ref 2] F G Q := by
  refine AM_intro (by decide) (Nat.le_of_ble_eq_true rfl) ?_
  intro X CX
  refine gw_aload_n CX.1 0 rfl dShow_tracks_0 rfl ?_
  refine gg_Show_9 CX.1 rfl dShow_tracks_1 ?_
  exact gw_iret CX rfl rfl ⟨_, _, _, rfl, rfl, H⟩ (Nat.zero_le _) (Nat.zero_le _) dShow_tracks_4
theorem bShow_lastCue_4 {D : va_G} {d : Nat} {Q : Int32 → (Nat → Nat → Int32) → (Nat → Int64) → Prop} {F : Nat → Nat → Int32} {G : Nat → Int64} {x1 : Int32} {x2 : Int32} {x3 : Int32} (H : ((30 ≤ x3 → Q x2 F G) ∧ (¬ (30 ≤ x3) → AMi D d nShow_isIn [.ref 2, .int x1, .int x3] F G (fun x1_ F1 G1 => ((x1_ = 0 → AWi D (d + 1) nShow_lastCue 4 [(0, .ref 2), (1, .int x1), (2, .int x2), (3, .int (x3 + 1))] [] F1 G1 Q) ∧ (¬ (x1_ = 0) → AWi D (d + 1) nShow_lastCue 4 [(0, .ref 2), (1, .int x1), (2, .int x3), (3, .int (x3 + 1))] [] F1 G1 Q)))))) : AWi D (d + 1) nShow_lastCue 4 [(0, .ref 2), (1, .int x1), (2, .int x2), (3, .int x3)] [] F G Q := by
  intro X CX
  refine gw_iload_n CX.1 3 rfl dShow_lastCue_4 rfl ?_
  refine gw_bipush (v := 30) CX.1 dShow_lastCue_5 (by decide) ?_
  refine gw_icmp_ge (tgt := 31) CX.1 dShow_lastCue_7 (by decide) (fun c => ?_) (fun c => ?_)
  · replace H := H.1 c
    refine gw_iload_n CX.1 2 rfl dShow_lastCue_31 rfl ?_
    exact gw_iret CX rfl rfl ⟨_, _, _, rfl, rfl, H⟩ (Nat.zero_le _) (Nat.zero_le _) dShow_lastCue_32
  · replace H := H.2 c
    refine gw_aload_n CX.1 0 rfl dShow_lastCue_10 rfl ?_
    refine gw_iload_n CX.1 1 rfl dShow_lastCue_11 rfl ?_
    refine gw_iload_n CX.1 3 rfl dShow_lastCue_12 rfl ?_
    refine cl_Show_isIn CX (Nat.le_of_ble_eq_true rfl) wm_Show_60 dShow_lastCue_13 H (fun x1_ F1 G1 H => ?_)
    refine gw_if_eq (tgt := 23) CX.1 dShow_lastCue_16 (by decide) (fun c => ?_) (fun c => ?_)
    · replace H := H.1 c
      refine gw_iload_n CX.1 2 rfl dShow_lastCue_23 rfl ?_
      refine gw_istore_n CX.1 dShow_lastCue_24 rfl (by decide) rfl ?_
      refine gw_iinc (v := (x3 + 1)) CX.1 3 rfl dShow_lastCue_25 rfl (by decide) rfl ?_
      refine gw_goto (tgt := 4) CX.1 dShow_lastCue_28 (by decide) ?_
      exact gw_sub [2, 3, 1, 0] rfl (H X CX)
    · replace H := H.2 c
      refine gw_iload_n CX.1 3 rfl dShow_lastCue_19 rfl ?_
      refine gw_goto (tgt := 24) CX.1 dShow_lastCue_20 (by decide) ?_
      refine gw_istore_n CX.1 dShow_lastCue_24 rfl (by decide) rfl ?_
      refine gw_iinc (v := (x3 + 1)) CX.1 3 rfl dShow_lastCue_25 rfl (by decide) rfl ?_
      refine gw_goto (tgt := 4) CX.1 dShow_lastCue_28 (by decide) ?_
      exact gw_sub [2, 3, 1, 0] rfl (H X CX)
theorem eShow_lastCue {D : va_G} {d : Nat} {Q : Int32 → (Nat → Nat → Int32) → (Nat → Int64) → Prop} {F : Nat → Nat → Int32} {G : Nat → Int64} {a0 : Int32} (H : AWi D (d + 1) nShow_lastCue 4 [(0, .ref 2), (1, .int a0), (2, .int (-1)), (3, .int 0)] [] F G Q) : AMi D (d + 1) nShow_lastCue [.ref 2, .int a0] F G Q := by
  refine AM_intro (by decide) (Nat.le_of_ble_eq_true rfl) ?_
  intro X CX
  refine gw_iconst (v := (-1)) CX.1 dShow_lastCue_0 (by decide) ?_
  refine gw_istore_n CX.1 dShow_lastCue_1 rfl (by decide) rfl ?_
  refine gw_iconst (v := 0) CX.1 dShow_lastCue_2 (by decide) ?_
  refine gw_istore_n CX.1 dShow_lastCue_3 rfl (by decide) rfl ?_
  exact gw_sub [2, 3, 1, 0] rfl (H X CX)
theorem eShow_dressOf {D : va_G} {d : Nat} {Q : Int32 → (Nat → Nat → Int32) → (Nat → Int64) → Prop} {F : Nat → Nat → Int32} {G : Nat → Int64} {a0 : Int32} (H : AMi D d nShow_isTrack [.ref 2, .int a0] F G (fun x1_ F1 G1 => ((x1_ = 0 → Q (-1000000005) F1 G1) ∧ (¬ (x1_ = 0) → vp_in a0 8 ∧ Q (F1 2 a0.toNatClampNeg) F1 G1)))) : AMi D (d + 1) nShow_dressOf [.ref 2, .int a0] F G Q := by
  refine AM_intro (by decide) (Nat.le_of_ble_eq_true rfl) ?_
  intro X CX
  refine gw_aload_n CX.1 0 rfl dShow_dressOf_0 rfl ?_
  refine gw_iload_n CX.1 1 rfl dShow_dressOf_1 rfl ?_
  refine cl_Show_isTrack CX (Nat.le_of_ble_eq_true rfl) wm_Show_39 dShow_dressOf_2 H (fun x1_ F1 G1 H => ?_)
  refine gw_if_eq (tgt := 17) CX.1 dShow_dressOf_5 (by decide) (fun c => ?_) (fun c => ?_)
  · replace H := H.1 c
    refine gw_ldc CX.1 wc_Show_31 dShow_dressOf_17 ?_
    exact gw_iret CX rfl rfl ⟨_, _, _, rfl, rfl, H⟩ (Nat.zero_le _) (Nat.zero_le _) dShow_dressOf_19
  · replace H := H.2 c
    refine gw_aload_n CX.1 0 rfl dShow_dressOf_8 rfl ?_
    refine gg_Show_15 CX.1 rfl dShow_dressOf_9 ?_
    refine gw_iload_n CX.1 1 rfl dShow_dressOf_12 rfl ?_
    obtain ⟨hin, H⟩ := H
    refine ga_2 CX.1 hin dShow_dressOf_13 ?_
    refine gw_goto (tgt := 19) CX.1 dShow_dressOf_14 (by decide) ?_
    exact gw_iret CX rfl rfl ⟨_, _, _, rfl, rfl, H⟩ (Nat.zero_le _) (Nat.zero_le _) dShow_dressOf_19
theorem bShow_canBeOnePersons_2 {D : va_G} {d : Nat} {Q : Int32 → (Nat → Nat → Int32) → (Nat → Int64) → Prop} {F : Nat → Nat → Int32} {G : Nat → Int64} {x1 : Int32} {x2 : Int32} {x3 : Int32} (H : ((30 ≤ x3 → Q 1 F G) ∧ (¬ (30 ≤ x3) → AMi D d nShow_isIn [.ref 2, .int x1, .int x3] F G (fun x1_ F1 G1 => ((x1_ = 0 → AWi D (d + 1) nShow_canBeOnePersons 28 [(0, .ref 2), (1, .int x1), (2, .int x2), (3, .int x3)] [] F1 G1 Q) ∧ (¬ (x1_ = 0) → AMi D d nShow_isIn [.ref 2, .int x2, .int x3] F1 G1 (fun x2_ F2 G2 => ((x2_ = 0 → AWi D (d + 1) nShow_canBeOnePersons 28 [(0, .ref 2), (1, .int x1), (2, .int x2), (3, .int x3)] [] F2 G2 Q) ∧ (¬ (x2_ = 0) → Q 0 F2 G2))))))))) : AWi D (d + 1) nShow_canBeOnePersons 2 [(0, .ref 2), (1, .int x1), (2, .int x2), (3, .int x3)] [] F G Q := by
  intro X CX
  refine gw_iload_n CX.1 3 rfl dShow_canBeOnePersons_2 rfl ?_
  refine gw_bipush (v := 30) CX.1 dShow_canBeOnePersons_3 (by decide) ?_
  refine gw_icmp_ge (tgt := 56) CX.1 dShow_canBeOnePersons_5 (by decide) (fun c => ?_) (fun c => ?_)
  · replace H := H.1 c
    refine gw_iconst (v := 1) CX.1 dShow_canBeOnePersons_56 (by decide) ?_
    exact gw_iret CX rfl (by decide) ⟨_, _, _, rfl, rfl, H⟩ (Nat.zero_le _) (Nat.zero_le _) dShow_canBeOnePersons_57
  · replace H := H.2 c
    refine gw_aload_n CX.1 0 rfl dShow_canBeOnePersons_8 rfl ?_
    refine gw_iload_n CX.1 1 rfl dShow_canBeOnePersons_9 rfl ?_
    refine gw_iload_n CX.1 3 rfl dShow_canBeOnePersons_10 rfl ?_
    refine cl_Show_isIn CX (Nat.le_of_ble_eq_true rfl) wm_Show_60 dShow_canBeOnePersons_11 H (fun x1_ F1 G1 H => ?_)
    refine gw_if_eq (tgt := 28) CX.1 dShow_canBeOnePersons_14 (by decide) (fun c => ?_) (fun c => ?_)
    · replace H := H.1 c
      exact H X CX
    · replace H := H.2 c
      refine gw_aload_n CX.1 0 rfl dShow_canBeOnePersons_17 rfl ?_
      refine gw_iload_n CX.1 2 rfl dShow_canBeOnePersons_18 rfl ?_
      refine gw_iload_n CX.1 3 rfl dShow_canBeOnePersons_19 rfl ?_
      refine cl_Show_isIn CX (Nat.le_of_ble_eq_true rfl) wm_Show_60 dShow_canBeOnePersons_20 H (fun x2_ F2 G2 H => ?_)
      refine gw_if_eq (tgt := 28) CX.1 dShow_canBeOnePersons_23 (by decide) (fun c => ?_) (fun c => ?_)
      · replace H := H.1 c
        exact H X CX
      · replace H := H.2 c
        refine gw_iconst (v := 0) CX.1 dShow_canBeOnePersons_26 (by decide) ?_
        exact gw_iret CX rfl (by decide) ⟨_, _, _, rfl, rfl, H⟩ (Nat.zero_le _) (Nat.zero_le _) dShow_canBeOnePersons_27
theorem bShow_canBeOnePersons_28 {D : va_G} {d : Nat} {Q : Int32 → (Nat → Nat → Int32) → (Nat → Int64) → Prop} {F : Nat → Nat → Int32} {G : Nat → Int64} {x1 : Int32} {x2 : Int32} {x3 : Int32} (H : AMi D d nShow_isFarStep [.ref 2, .int x1, .int x2, .int x3] F G (fun x1_ F1 G1 => ((¬ x1_ = 0 → Q 0 F1 G1) ∧ (x1_ = 0 → AMi D d nShow_isFarStep [.ref 2, .int x2, .int x1, .int x3] F1 G1 (fun x2_ F2 G2 => ((x2_ = 0 → AWi D (d + 1) nShow_canBeOnePersons 2 [(0, .ref 2), (1, .int x1), (2, .int x2), (3, .int (x3 + 1))] [] F2 G2 Q) ∧ (¬ (x2_ = 0) → Q 0 F2 G2))))))) : AWi D (d + 1) nShow_canBeOnePersons 28 [(0, .ref 2), (1, .int x1), (2, .int x2), (3, .int x3)] [] F G Q := by
  intro X CX
  refine gw_aload_n CX.1 0 rfl dShow_canBeOnePersons_28 rfl ?_
  refine gw_iload_n CX.1 1 rfl dShow_canBeOnePersons_29 rfl ?_
  refine gw_iload_n CX.1 2 rfl dShow_canBeOnePersons_30 rfl ?_
  refine gw_iload_n CX.1 3 rfl dShow_canBeOnePersons_31 rfl ?_
  refine cl_Show_isFarStep CX (Nat.le_of_ble_eq_true rfl) wm_Show_68 dShow_canBeOnePersons_32 H (fun x1_ F1 G1 H => ?_)
  refine gw_if_ne (tgt := 48) CX.1 dShow_canBeOnePersons_35 (by decide) (fun c => ?_) (fun c => ?_)
  · replace H := H.1 c
    refine gw_iconst (v := 0) CX.1 dShow_canBeOnePersons_48 (by decide) ?_
    exact gw_iret CX rfl (by decide) ⟨_, _, _, rfl, rfl, H⟩ (Nat.zero_le _) (Nat.zero_le _) dShow_canBeOnePersons_49
  · replace H := H.2 c
    refine gw_aload_n CX.1 0 rfl dShow_canBeOnePersons_38 rfl ?_
    refine gw_iload_n CX.1 2 rfl dShow_canBeOnePersons_39 rfl ?_
    refine gw_iload_n CX.1 1 rfl dShow_canBeOnePersons_40 rfl ?_
    refine gw_iload_n CX.1 3 rfl dShow_canBeOnePersons_41 rfl ?_
    refine cl_Show_isFarStep CX (Nat.le_of_ble_eq_true rfl) wm_Show_68 dShow_canBeOnePersons_42 H (fun x2_ F2 G2 H => ?_)
    refine gw_if_eq (tgt := 50) CX.1 dShow_canBeOnePersons_45 (by decide) (fun c => ?_) (fun c => ?_)
    · replace H := H.1 c
      refine gw_iinc (v := (x3 + 1)) CX.1 3 rfl dShow_canBeOnePersons_50 rfl (by decide) rfl ?_
      refine gw_goto (tgt := 2) CX.1 dShow_canBeOnePersons_53 (by decide) ?_
      exact gw_sub [1, 2, 3, 0] rfl (H X CX)
    · replace H := H.2 c
      refine gw_iconst (v := 0) CX.1 dShow_canBeOnePersons_48 (by decide) ?_
      exact gw_iret CX rfl (by decide) ⟨_, _, _, rfl, rfl, H⟩ (Nat.zero_le _) (Nat.zero_le _) dShow_canBeOnePersons_49
theorem eShow_canBeOnePersons {D : va_G} {d : Nat} {Q : Int32 → (Nat → Nat → Int32) → (Nat → Int64) → Prop} {F : Nat → Nat → Int32} {G : Nat → Int64} {a0 : Int32} {a1 : Int32} (H : AWi D (d + 1) nShow_canBeOnePersons 2 [(0, .ref 2), (1, .int a0), (2, .int a1), (3, .int 0)] [] F G Q) : AMi D (d + 1) nShow_canBeOnePersons [.ref 2, .int a0, .int a1] F G Q := by
  refine AM_intro (by decide) (Nat.le_of_ble_eq_true rfl) ?_
  intro X CX
  refine gw_iconst (v := 0) CX.1 dShow_canBeOnePersons_0 (by decide) ?_
  refine gw_istore_n CX.1 dShow_canBeOnePersons_1 rfl (by decide) rfl ?_
  exact gw_sub [1, 2, 3, 0] rfl (H X CX)
theorem eShow_isFarStep {D : va_G} {d : Nat} {Q : Int32 → (Nat → Nat → Int32) → (Nat → Int64) → Prop} {F : Nat → Nat → Int32} {G : Nat → Int64} {a0 : Int32} {a1 : Int32} {a2 : Int32} (H : AMi D d nShow_isIn [.ref 2, .int a0, .int a2] F G (fun x1_ F1 G1 => ((x1_ = 0 → Q 0 F1 G1) ∧ (¬ (x1_ = 0) → AMi D d nShow_isIn [.ref 2, .int a1, .int (a2 + 1)] F1 G1 (fun x2_ F2 G2 => ((x2_ = 0 → Q 0 F2 G2) ∧ (¬ (x2_ = 0) → AMi D d nShow_placeAt [.ref 2, .int a0, .int a2] F2 G2 (fun x3_ F3 G3 => AMi D d nShow_placeAt [.ref 2, .int a1, .int (a2 + 1)] F3 G3 (fun x4_ F4 G4 => (((if 0 ≤ (x3_ - x4_) then (x3_ - x4_) else 0 - (x3_ - x4_)) ≤ 5 → Q 0 F4 G4) ∧ (¬ ((if 0 ≤ (x3_ - x4_) then (x3_ - x4_) else 0 - (x3_ - x4_)) ≤ 5) → Q 1 F4 G4))))))))))) : AMi D (d + 1) nShow_isFarStep [.ref 2, .int a0, .int a1, .int a2] F G Q := by
  refine AM_intro (by decide) (Nat.le_of_ble_eq_true rfl) ?_
  intro X CX
  refine gw_aload_n CX.1 0 rfl dShow_isFarStep_0 rfl ?_
  refine gw_iload_n CX.1 1 rfl dShow_isFarStep_1 rfl ?_
  refine gw_iload_n CX.1 3 rfl dShow_isFarStep_2 rfl ?_
  refine cl_Show_isIn CX (Nat.le_of_ble_eq_true rfl) wm_Show_60 dShow_isFarStep_3 H (fun x1_ F1 G1 H => ?_)
  refine gw_if_eq (tgt := 46) CX.1 dShow_isFarStep_6 (by decide) (fun c => ?_) (fun c => ?_)
  · replace H := H.1 c
    refine gw_iconst (v := 0) CX.1 dShow_isFarStep_46 (by decide) ?_
    exact gw_iret CX rfl (by decide) ⟨_, _, _, rfl, rfl, H⟩ (Nat.zero_le _) (Nat.zero_le _) dShow_isFarStep_47
  · replace H := H.2 c
    refine gw_aload_n CX.1 0 rfl dShow_isFarStep_9 rfl ?_
    refine gw_iload_n CX.1 2 rfl dShow_isFarStep_10 rfl ?_
    refine gw_iload_n CX.1 3 rfl dShow_isFarStep_11 rfl ?_
    refine gw_iconst (v := 1) CX.1 dShow_isFarStep_12 (by decide) ?_
    refine gw_iadd CX.1 dShow_isFarStep_13 ?_
    refine cl_Show_isIn CX (Nat.le_of_ble_eq_true rfl) wm_Show_60 dShow_isFarStep_14 H (fun x2_ F2 G2 H => ?_)
    refine gw_if_eq (tgt := 46) CX.1 dShow_isFarStep_17 (by decide) (fun c => ?_) (fun c => ?_)
    · replace H := H.1 c
      refine gw_iconst (v := 0) CX.1 dShow_isFarStep_46 (by decide) ?_
      exact gw_iret CX rfl (by decide) ⟨_, _, _, rfl, rfl, H⟩ (Nat.zero_le _) (Nat.zero_le _) dShow_isFarStep_47
    · replace H := H.2 c
      refine gw_aload_n CX.1 0 rfl dShow_isFarStep_20 rfl ?_
      refine gw_iload_n CX.1 1 rfl dShow_isFarStep_21 rfl ?_
      refine gw_iload_n CX.1 3 rfl dShow_isFarStep_22 rfl ?_
      refine cl_Show_placeAt CX (Nat.le_of_ble_eq_true rfl) wm_Show_72 dShow_isFarStep_23 H (fun x3_ F3 G3 H => ?_)
      refine gw_aload_n CX.1 0 rfl dShow_isFarStep_26 rfl ?_
      refine gw_iload_n CX.1 2 rfl dShow_isFarStep_27 rfl ?_
      refine gw_iload_n CX.1 3 rfl dShow_isFarStep_28 rfl ?_
      refine gw_iconst (v := 1) CX.1 dShow_isFarStep_29 (by decide) ?_
      refine gw_iadd CX.1 dShow_isFarStep_30 ?_
      refine cl_Show_placeAt CX (Nat.le_of_ble_eq_true rfl) wm_Show_72 dShow_isFarStep_31 H (fun x4_ F4 G4 H => ?_)
      refine gw_isub CX.1 dShow_isFarStep_34 ?_
      refine gw_mabs CX (Nat.le_of_ble_eq_true rfl) wm_Show_75 dShow_isFarStep_35 ?_
      refine gw_iconst (v := 5) CX.1 dShow_isFarStep_38 (by decide) ?_
      refine gw_icmp_le (tgt := 46) CX.1 dShow_isFarStep_39 (by decide) (fun c => ?_) (fun c => ?_)
      · replace H := H.1 c
        refine gw_iconst (v := 0) CX.1 dShow_isFarStep_46 (by decide) ?_
        exact gw_iret CX rfl (by decide) ⟨_, _, _, rfl, rfl, H⟩ (Nat.zero_le _) (Nat.zero_le _) dShow_isFarStep_47
      · replace H := H.2 c
        refine gw_iconst (v := 1) CX.1 dShow_isFarStep_42 (by decide) ?_
        refine gw_goto (tgt := 47) CX.1 dShow_isFarStep_43 (by decide) ?_
        exact gw_iret CX rfl (by decide) ⟨_, _, _, rfl, rfl, H⟩ (Nat.zero_le _) (Nat.zero_le _) dShow_isFarStep_47
theorem bShow_canBeFoes_2 {D : va_G} {d : Nat} {Q : Int32 → (Nat → Nat → Int32) → (Nat → Int64) → Prop} {F : Nat → Nat → Int32} {G : Nat → Int64} {x1 : Int32} {x2 : Int32} {x3 : Int32} (H : ((30 ≤ x3 → Q 1 F G) ∧ (¬ (30 ≤ x3) → AMi D d nShow_isIn [.ref 2, .int x1, .int x3] F G (fun x1_ F1 G1 => ((x1_ = 0 → AWi D (d + 1) nShow_canBeFoes 2 [(0, .ref 2), (1, .int x1), (2, .int x2), (3, .int (x3 + 1))] [] F1 G1 Q) ∧ (¬ (x1_ = 0) → AMi D d nShow_isIn [.ref 2, .int x2, .int x3] F1 G1 (fun x2_ F2 G2 => ((x2_ = 0 → AWi D (d + 1) nShow_canBeFoes 2 [(0, .ref 2), (1, .int x1), (2, .int x2), (3, .int (x3 + 1))] [] F2 G2 Q) ∧ (¬ (x2_ = 0) → AMi D d nShow_placeAt [.ref 2, .int x1, .int x3] F2 G2 (fun x3_ F3 G3 => AMi D d nShow_placeAt [.ref 2, .int x2, .int x3] F3 G3 (fun x4_ F4 G4 => ((2 ≤ (if 0 ≤ (x3_ - x4_) then (x3_ - x4_) else 0 - (x3_ - x4_)) → AWi D (d + 1) nShow_canBeFoes 2 [(0, .ref 2), (1, .int x1), (2, .int x2), (3, .int (x3 + 1))] [] F4 G4 Q) ∧ (¬ (2 ≤ (if 0 ≤ (x3_ - x4_) then (x3_ - x4_) else 0 - (x3_ - x4_))) → Q 0 F4 G4))))))))))))) : AWi D (d + 1) nShow_canBeFoes 2 [(0, .ref 2), (1, .int x1), (2, .int x2), (3, .int x3)] [] F G Q := by
  intro X CX
  refine gw_iload_n CX.1 3 rfl dShow_canBeFoes_2 rfl ?_
  refine gw_bipush (v := 30) CX.1 dShow_canBeFoes_3 (by decide) ?_
  refine gw_icmp_ge (tgt := 54) CX.1 dShow_canBeFoes_5 (by decide) (fun c => ?_) (fun c => ?_)
  · replace H := H.1 c
    refine gw_iconst (v := 1) CX.1 dShow_canBeFoes_54 (by decide) ?_
    exact gw_iret CX rfl (by decide) ⟨_, _, _, rfl, rfl, H⟩ (Nat.zero_le _) (Nat.zero_le _) dShow_canBeFoes_55
  · replace H := H.2 c
    refine gw_aload_n CX.1 0 rfl dShow_canBeFoes_8 rfl ?_
    refine gw_iload_n CX.1 1 rfl dShow_canBeFoes_9 rfl ?_
    refine gw_iload_n CX.1 3 rfl dShow_canBeFoes_10 rfl ?_
    refine cl_Show_isIn CX (Nat.le_of_ble_eq_true rfl) wm_Show_60 dShow_canBeFoes_11 H (fun x1_ F1 G1 H => ?_)
    refine gw_if_eq (tgt := 48) CX.1 dShow_canBeFoes_14 (by decide) (fun c => ?_) (fun c => ?_)
    · replace H := H.1 c
      refine gw_iinc (v := (x3 + 1)) CX.1 3 rfl dShow_canBeFoes_48 rfl (by decide) rfl ?_
      refine gw_goto (tgt := 2) CX.1 dShow_canBeFoes_51 (by decide) ?_
      exact gw_sub [1, 2, 3, 0] rfl (H X CX)
    · replace H := H.2 c
      refine gw_aload_n CX.1 0 rfl dShow_canBeFoes_17 rfl ?_
      refine gw_iload_n CX.1 2 rfl dShow_canBeFoes_18 rfl ?_
      refine gw_iload_n CX.1 3 rfl dShow_canBeFoes_19 rfl ?_
      refine cl_Show_isIn CX (Nat.le_of_ble_eq_true rfl) wm_Show_60 dShow_canBeFoes_20 H (fun x2_ F2 G2 H => ?_)
      refine gw_if_eq (tgt := 48) CX.1 dShow_canBeFoes_23 (by decide) (fun c => ?_) (fun c => ?_)
      · replace H := H.1 c
        refine gw_iinc (v := (x3 + 1)) CX.1 3 rfl dShow_canBeFoes_48 rfl (by decide) rfl ?_
        refine gw_goto (tgt := 2) CX.1 dShow_canBeFoes_51 (by decide) ?_
        exact gw_sub [1, 2, 3, 0] rfl (H X CX)
      · replace H := H.2 c
        refine gw_aload_n CX.1 0 rfl dShow_canBeFoes_26 rfl ?_
        refine gw_iload_n CX.1 1 rfl dShow_canBeFoes_27 rfl ?_
        refine gw_iload_n CX.1 3 rfl dShow_canBeFoes_28 rfl ?_
        refine cl_Show_placeAt CX (Nat.le_of_ble_eq_true rfl) wm_Show_72 dShow_canBeFoes_29 H (fun x3_ F3 G3 H => ?_)
        refine gw_aload_n CX.1 0 rfl dShow_canBeFoes_32 rfl ?_
        refine gw_iload_n CX.1 2 rfl dShow_canBeFoes_33 rfl ?_
        refine gw_iload_n CX.1 3 rfl dShow_canBeFoes_34 rfl ?_
        refine cl_Show_placeAt CX (Nat.le_of_ble_eq_true rfl) wm_Show_72 dShow_canBeFoes_35 H (fun x4_ F4 G4 H => ?_)
        refine gw_isub CX.1 dShow_canBeFoes_38 ?_
        refine gw_mabs CX (Nat.le_of_ble_eq_true rfl) wm_Show_75 dShow_canBeFoes_39 ?_
        refine gw_iconst (v := 2) CX.1 dShow_canBeFoes_42 (by decide) ?_
        refine gw_icmp_ge (tgt := 48) CX.1 dShow_canBeFoes_43 (by decide) (fun c => ?_) (fun c => ?_)
        · replace H := H.1 c
          refine gw_iinc (v := (x3 + 1)) CX.1 3 rfl dShow_canBeFoes_48 rfl (by decide) rfl ?_
          refine gw_goto (tgt := 2) CX.1 dShow_canBeFoes_51 (by decide) ?_
          exact gw_sub [1, 2, 3, 0] rfl (H X CX)
        · replace H := H.2 c
          refine gw_iconst (v := 0) CX.1 dShow_canBeFoes_46 (by decide) ?_
          exact gw_iret CX rfl (by decide) ⟨_, _, _, rfl, rfl, H⟩ (Nat.zero_le _) (Nat.zero_le _) dShow_canBeFoes_47
theorem eShow_canBeFoes {D : va_G} {d : Nat} {Q : Int32 → (Nat → Nat → Int32) → (Nat → Int64) → Prop} {F : Nat → Nat → Int32} {G : Nat → Int64} {a0 : Int32} {a1 : Int32} (H : AWi D (d + 1) nShow_canBeFoes 2 [(0, .ref 2), (1, .int a0), (2, .int a1), (3, .int 0)] [] F G Q) : AMi D (d + 1) nShow_canBeFoes [.ref 2, .int a0, .int a1] F G Q := by
  refine AM_intro (by decide) (Nat.le_of_ble_eq_true rfl) ?_
  intro X CX
  refine gw_iconst (v := 0) CX.1 dShow_canBeFoes_0 (by decide) ?_
  refine gw_istore_n CX.1 dShow_canBeFoes_1 rfl (by decide) rfl ?_
  exact gw_sub [1, 2, 3, 0] rfl (H X CX)
theorem bShow_countMusts_4 {D : va_G} {d : Nat} {Q : Int32 → (Nat → Nat → Int32) → (Nat → Int64) → Prop} {F : Nat → Nat → Int32} {G : Nat → Int64} {x1 : Int32} {x2 : Int32} {x3 : Int32} (H : ((30 ≤ x3 → Q x2 F G) ∧ (¬ (30 ≤ x3) → AMi D d nShow_mustAt [.ref 2, .int x1, .int x3] F G (fun x1_ F1 G1 => AWi D (d + 1) nShow_countMusts 4 [(0, .ref 2), (1, .int x1), (2, .int (x2 + x1_)), (3, .int (x3 + 1))] [] F1 G1 Q)))) : AWi D (d + 1) nShow_countMusts 4 [(0, .ref 2), (1, .int x1), (2, .int x2), (3, .int x3)] [] F G Q := by
  intro X CX
  refine gw_iload_n CX.1 3 rfl dShow_countMusts_4 rfl ?_
  refine gw_bipush (v := 30) CX.1 dShow_countMusts_5 (by decide) ?_
  refine gw_icmp_ge (tgt := 25) CX.1 dShow_countMusts_7 (by decide) (fun c => ?_) (fun c => ?_)
  · replace H := H.1 c
    refine gw_iload_n CX.1 2 rfl dShow_countMusts_25 rfl ?_
    exact gw_iret CX rfl rfl ⟨_, _, _, rfl, rfl, H⟩ (Nat.zero_le _) (Nat.zero_le _) dShow_countMusts_26
  · replace H := H.2 c
    refine gw_iload_n CX.1 2 rfl dShow_countMusts_10 rfl ?_
    refine gw_aload_n CX.1 0 rfl dShow_countMusts_11 rfl ?_
    refine gw_iload_n CX.1 1 rfl dShow_countMusts_12 rfl ?_
    refine gw_iload_n CX.1 3 rfl dShow_countMusts_13 rfl ?_
    refine cl_Show_mustAt CX (Nat.le_of_ble_eq_true rfl) wm_Show_64 dShow_countMusts_14 H (fun x1_ F1 G1 H => ?_)
    refine gw_iadd CX.1 dShow_countMusts_17 ?_
    refine gw_istore_n CX.1 dShow_countMusts_18 rfl (by decide) rfl ?_
    refine gw_iinc (v := (x3 + 1)) CX.1 3 rfl dShow_countMusts_19 rfl (by decide) rfl ?_
    refine gw_goto (tgt := 4) CX.1 dShow_countMusts_22 (by decide) ?_
    exact gw_sub [2, 3, 1, 0] rfl (H X CX)
theorem eShow_countMusts {D : va_G} {d : Nat} {Q : Int32 → (Nat → Nat → Int32) → (Nat → Int64) → Prop} {F : Nat → Nat → Int32} {G : Nat → Int64} {a0 : Int32} (H : AWi D (d + 1) nShow_countMusts 4 [(0, .ref 2), (1, .int a0), (2, .int 0), (3, .int 0)] [] F G Q) : AMi D (d + 1) nShow_countMusts [.ref 2, .int a0] F G Q := by
  refine AM_intro (by decide) (Nat.le_of_ble_eq_true rfl) ?_
  intro X CX
  refine gw_iconst (v := 0) CX.1 dShow_countMusts_0 (by decide) ?_
  refine gw_istore_n CX.1 dShow_countMusts_1 rfl (by decide) rfl ?_
  refine gw_iconst (v := 0) CX.1 dShow_countMusts_2 (by decide) ?_
  refine gw_istore_n CX.1 dShow_countMusts_3 rfl (by decide) rfl ?_
  exact gw_sub [2, 3, 1, 0] rfl (H X CX)
theorem bShow_countCues_4 {D : va_G} {d : Nat} {Q : Int32 → (Nat → Nat → Int32) → (Nat → Int64) → Prop} {F : Nat → Nat → Int32} {G : Nat → Int64} {x1 : Int32} {x2 : Int32} {x3 : Int32} (H : ((30 ≤ x3 → Q x2 F G) ∧ (¬ (30 ≤ x3) → AMi D d nShow_isIn [.ref 2, .int x1, .int x3] F G (fun x1_ F1 G1 => ((x1_ = 0 → AWi D (d + 1) nShow_countCues 4 [(0, .ref 2), (1, .int x1), (2, .int (x2 + 0)), (3, .int (x3 + 1))] [] F1 G1 Q) ∧ (¬ (x1_ = 0) → AWi D (d + 1) nShow_countCues 4 [(0, .ref 2), (1, .int x1), (2, .int (x2 + 1)), (3, .int (x3 + 1))] [] F1 G1 Q)))))) : AWi D (d + 1) nShow_countCues 4 [(0, .ref 2), (1, .int x1), (2, .int x2), (3, .int x3)] [] F G Q := by
  intro X CX
  refine gw_iload_n CX.1 3 rfl dShow_countCues_4 rfl ?_
  refine gw_bipush (v := 30) CX.1 dShow_countCues_5 (by decide) ?_
  refine gw_icmp_ge (tgt := 33) CX.1 dShow_countCues_7 (by decide) (fun c => ?_) (fun c => ?_)
  · replace H := H.1 c
    refine gw_iload_n CX.1 2 rfl dShow_countCues_33 rfl ?_
    exact gw_iret CX rfl rfl ⟨_, _, _, rfl, rfl, H⟩ (Nat.zero_le _) (Nat.zero_le _) dShow_countCues_34
  · replace H := H.2 c
    refine gw_iload_n CX.1 2 rfl dShow_countCues_10 rfl ?_
    refine gw_aload_n CX.1 0 rfl dShow_countCues_11 rfl ?_
    refine gw_iload_n CX.1 1 rfl dShow_countCues_12 rfl ?_
    refine gw_iload_n CX.1 3 rfl dShow_countCues_13 rfl ?_
    refine cl_Show_isIn CX (Nat.le_of_ble_eq_true rfl) wm_Show_60 dShow_countCues_14 H (fun x1_ F1 G1 H => ?_)
    refine gw_if_eq (tgt := 24) CX.1 dShow_countCues_17 (by decide) (fun c => ?_) (fun c => ?_)
    · replace H := H.1 c
      refine gw_iconst (v := 0) CX.1 dShow_countCues_24 (by decide) ?_
      refine gw_iadd CX.1 dShow_countCues_25 ?_
      refine gw_istore_n CX.1 dShow_countCues_26 rfl (by decide) rfl ?_
      refine gw_iinc (v := (x3 + 1)) CX.1 3 rfl dShow_countCues_27 rfl (by decide) rfl ?_
      refine gw_goto (tgt := 4) CX.1 dShow_countCues_30 (by decide) ?_
      exact gw_sub [2, 3, 1, 0] rfl (H X CX)
    · replace H := H.2 c
      refine gw_iconst (v := 1) CX.1 dShow_countCues_20 (by decide) ?_
      refine gw_goto (tgt := 25) CX.1 dShow_countCues_21 (by decide) ?_
      refine gw_iadd CX.1 dShow_countCues_25 ?_
      refine gw_istore_n CX.1 dShow_countCues_26 rfl (by decide) rfl ?_
      refine gw_iinc (v := (x3 + 1)) CX.1 3 rfl dShow_countCues_27 rfl (by decide) rfl ?_
      refine gw_goto (tgt := 4) CX.1 dShow_countCues_30 (by decide) ?_
      exact gw_sub [2, 3, 1, 0] rfl (H X CX)
theorem eShow_countCues {D : va_G} {d : Nat} {Q : Int32 → (Nat → Nat → Int32) → (Nat → Int64) → Prop} {F : Nat → Nat → Int32} {G : Nat → Int64} {a0 : Int32} (H : AWi D (d + 1) nShow_countCues 4 [(0, .ref 2), (1, .int a0), (2, .int 0), (3, .int 0)] [] F G Q) : AMi D (d + 1) nShow_countCues [.ref 2, .int a0] F G Q := by
  refine AM_intro (by decide) (Nat.le_of_ble_eq_true rfl) ?_
  intro X CX
  refine gw_iconst (v := 0) CX.1 dShow_countCues_0 (by decide) ?_
  refine gw_istore_n CX.1 dShow_countCues_1 rfl (by decide) rfl ?_
  refine gw_iconst (v := 0) CX.1 dShow_countCues_2 (by decide) ?_
  refine gw_istore_n CX.1 dShow_countCues_3 rfl (by decide) rfl ?_
  exact gw_sub [2, 3, 1, 0] rfl (H X CX)
theorem eSheet_begin_0 {D : va_G} {d : Nat} {Q : (Nat → Nat → Int32) → (Nat → Int64) → Prop} {F : Nat → Nat → Int32} {G : Nat → Int64} {a0 : Int32} (H : AMi D d nDesk_isWithin [.int a0, .int 0, .int 30] F G (fun x1_ F1 G1 => ((x1_ = 0 → Q F1 G1) ∧ (¬ (x1_ = 0) → Q (upA (upS F1 108 a0) 35 (gFl ((upS F1 108 a0) 35) 0 30)) G1)))) : AMv D (d + 1) nSheet_begin [.ref 35, .int a0] F G Q := by
  refine AM_intro (by decide) (Nat.le_of_ble_eq_true rfl) ?_
  intro X CX
  refine gw_iload_n CX.1 1 rfl dSheet_begin_0 rfl ?_
  refine gw_iconst (v := 0) CX.1 dSheet_begin_1 (by decide) ?_
  refine gw_bipush (v := 30) CX.1 dSheet_begin_2 (by decide) ?_
  refine cn_Desk_isWithin CX (Nat.le_of_ble_eq_true rfl) wm_Sheet_19 dSheet_begin_4 H (fun x1_ F1 G1 H => ?_)
  refine gw_if_eq (tgt := 23) CX.1 dSheet_begin_7 (by decide) (fun c => ?_) (fun c => ?_)
  · replace H := H.1 c
    exact gw_vret CX rfl ⟨_, _, rfl, rfl, H⟩ (Nat.zero_le _) (Nat.zero_le _) dSheet_begin_23
  · replace H := H.2 c
    refine gw_aload_n CX.1 0 rfl dSheet_begin_10 rfl ?_
    refine gw_iload_n CX.1 1 rfl dSheet_begin_11 rfl ?_
    refine gp_Sheet_11_0 CX.1 rfl dSheet_begin_12 ?_
    refine gw_aload_n CX.1 0 rfl dSheet_begin_15 rfl ?_
    refine gg_Sheet_15_0 CX.1 rfl dSheet_begin_16 ?_
    refine gw_iconst (v := 0) CX.1 dSheet_begin_19 (by decide) ?_
    refine gcf_B (F' := (upA (upS F1 108 a0) 35 (gFl ((upS F1 108 a0) 35) 0 30))) CX (Nat.le_of_ble_eq_true rfl) wm_Sheet_23 dSheet_begin_20 (by decide) (by decide) mk_35 (ms_35 _) ?_
    exact gw_vret CX rfl ⟨_, _, rfl, rfl, H⟩ (Nat.zero_le _) (Nat.zero_le _) dSheet_begin_23
theorem eSheet_begin_1 {D : va_G} {d : Nat} {Q : (Nat → Nat → Int32) → (Nat → Int64) → Prop} {F : Nat → Nat → Int32} {G : Nat → Int64} {a0 : Int32} (H : AMi D d nDesk_isWithin [.int a0, .int 0, .int 30] F G (fun x1_ F1 G1 => ((x1_ = 0 → Q F1 G1) ∧ (¬ (x1_ = 0) → Q (upA (upS F1 109 a0) 37 (gFl ((upS F1 109 a0) 37) 0 30)) G1)))) : AMv D (d + 1) nSheet_begin [.ref 37, .int a0] F G Q := by
  refine AM_intro (by decide) (Nat.le_of_ble_eq_true rfl) ?_
  intro X CX
  refine gw_iload_n CX.1 1 rfl dSheet_begin_0 rfl ?_
  refine gw_iconst (v := 0) CX.1 dSheet_begin_1 (by decide) ?_
  refine gw_bipush (v := 30) CX.1 dSheet_begin_2 (by decide) ?_
  refine cn_Desk_isWithin CX (Nat.le_of_ble_eq_true rfl) wm_Sheet_19 dSheet_begin_4 H (fun x1_ F1 G1 H => ?_)
  refine gw_if_eq (tgt := 23) CX.1 dSheet_begin_7 (by decide) (fun c => ?_) (fun c => ?_)
  · replace H := H.1 c
    exact gw_vret CX rfl ⟨_, _, rfl, rfl, H⟩ (Nat.zero_le _) (Nat.zero_le _) dSheet_begin_23
  · replace H := H.2 c
    refine gw_aload_n CX.1 0 rfl dSheet_begin_10 rfl ?_
    refine gw_iload_n CX.1 1 rfl dSheet_begin_11 rfl ?_
    refine gp_Sheet_11_1 CX.1 rfl dSheet_begin_12 ?_
    refine gw_aload_n CX.1 0 rfl dSheet_begin_15 rfl ?_
    refine gg_Sheet_15_1 CX.1 rfl dSheet_begin_16 ?_
    refine gw_iconst (v := 0) CX.1 dSheet_begin_19 (by decide) ?_
    refine gcf_B (F' := (upA (upS F1 109 a0) 37 (gFl ((upS F1 109 a0) 37) 0 30))) CX (Nat.le_of_ble_eq_true rfl) wm_Sheet_23 dSheet_begin_20 (by decide) (by decide) mk_37 (ms_37 _) ?_
    exact gw_vret CX rfl ⟨_, _, rfl, rfl, H⟩ (Nat.zero_le _) (Nat.zero_le _) dSheet_begin_23
theorem eSheet_setValue_0 {D : va_G} {d : Nat} {Q : (Nat → Nat → Int32) → (Nat → Int64) → Prop} {F : Nat → Nat → Int32} {G : Nat → Int64} {a0 : Int32} {a1 : Int32} (H : AMi D d nSheet_hasRun [.ref 35, .int a0, .int 1] F G (fun x1_ F1 G1 => ((x1_ = 0 → Q F1 G1) ∧ (¬ (x1_ = 0) → vp_in a0 30 ∧ Q (up F1 35 (a0.toNatClampNeg) (vp_nar .byte a1)) G1)))) : AMv D (d + 1) nSheet_setValue [.ref 35, .int a0, .int a1] F G Q := by
  refine AM_intro (by decide) (Nat.le_of_ble_eq_true rfl) ?_
  intro X CX
  refine gw_aload_n CX.1 0 rfl dSheet_setValue_0 rfl ?_
  refine gw_iload_n CX.1 1 rfl dSheet_setValue_1 rfl ?_
  refine gw_iconst (v := 1) CX.1 dSheet_setValue_2 (by decide) ?_
  refine cl_Sheet_hasRun_0 CX (Nat.le_of_ble_eq_true rfl) wm_Sheet_29 dSheet_setValue_3 H (fun x1_ F1 G1 H => ?_)
  refine gw_if_eq (tgt := 16) CX.1 dSheet_setValue_6 (by decide) (fun c => ?_) (fun c => ?_)
  · replace H := H.1 c
    exact gw_vret CX rfl ⟨_, _, rfl, rfl, H⟩ (Nat.zero_le _) (Nat.zero_le _) dSheet_setValue_16
  · replace H := H.2 c
    refine gw_aload_n CX.1 0 rfl dSheet_setValue_9 rfl ?_
    refine gg_Sheet_15_0 CX.1 rfl dSheet_setValue_10 ?_
    refine gw_iload_n CX.1 1 rfl dSheet_setValue_13 rfl ?_
    refine gw_iload_n CX.1 2 rfl dSheet_setValue_14 rfl ?_
    obtain ⟨hin, H⟩ := H
    refine gs_35 CX.1 hin dSheet_setValue_15 ?_
    exact gw_vret CX rfl ⟨_, _, rfl, rfl, H⟩ (Nat.zero_le _) (Nat.zero_le _) dSheet_setValue_16
theorem eSheet_setValue_1 {D : va_G} {d : Nat} {Q : (Nat → Nat → Int32) → (Nat → Int64) → Prop} {F : Nat → Nat → Int32} {G : Nat → Int64} {a0 : Int32} {a1 : Int32} (H : AMi D d nSheet_hasRun [.ref 37, .int a0, .int 1] F G (fun x1_ F1 G1 => ((x1_ = 0 → Q F1 G1) ∧ (¬ (x1_ = 0) → vp_in a0 30 ∧ Q (up F1 37 (a0.toNatClampNeg) (vp_nar .byte a1)) G1)))) : AMv D (d + 1) nSheet_setValue [.ref 37, .int a0, .int a1] F G Q := by
  refine AM_intro (by decide) (Nat.le_of_ble_eq_true rfl) ?_
  intro X CX
  refine gw_aload_n CX.1 0 rfl dSheet_setValue_0 rfl ?_
  refine gw_iload_n CX.1 1 rfl dSheet_setValue_1 rfl ?_
  refine gw_iconst (v := 1) CX.1 dSheet_setValue_2 (by decide) ?_
  refine cl_Sheet_hasRun_1 CX (Nat.le_of_ble_eq_true rfl) wm_Sheet_29 dSheet_setValue_3 H (fun x1_ F1 G1 H => ?_)
  refine gw_if_eq (tgt := 16) CX.1 dSheet_setValue_6 (by decide) (fun c => ?_) (fun c => ?_)
  · replace H := H.1 c
    exact gw_vret CX rfl ⟨_, _, rfl, rfl, H⟩ (Nat.zero_le _) (Nat.zero_le _) dSheet_setValue_16
  · replace H := H.2 c
    refine gw_aload_n CX.1 0 rfl dSheet_setValue_9 rfl ?_
    refine gg_Sheet_15_1 CX.1 rfl dSheet_setValue_10 ?_
    refine gw_iload_n CX.1 1 rfl dSheet_setValue_13 rfl ?_
    refine gw_iload_n CX.1 2 rfl dSheet_setValue_14 rfl ?_
    obtain ⟨hin, H⟩ := H
    refine gs_37 CX.1 hin dSheet_setValue_15 ?_
    exact gw_vret CX rfl ⟨_, _, rfl, rfl, H⟩ (Nat.zero_le _) (Nat.zero_le _) dSheet_setValue_16
theorem eSheet_take_0_0 {D : va_G} {d : Nat} {Q : (Nat → Nat → Int32) → (Nat → Int64) → Prop} {F : Nat → Nat → Int32} {G : Nat → Int64} {a1 : Int32} {a2 : Int32} {a3 : Int32} (H : AMi D d nSheet_hasRun [.ref 35, .int a1, .int a3] F G (fun x1_ F1 G1 => ((x1_ = 0 → Q F1 G1) ∧ (¬ (x1_ = 0) → AMi D d nSheet_hasRun [.ref 35, .int a2, .int a3] F1 G1 (fun x2_ F2 G2 => ((x2_ = 0 → Q F2 G2) ∧ (¬ (x2_ = 0) → (¬ (a1 : Int32) < 0 ∧ ¬ (a2 : Int32) < 0 ∧ ¬ (a3 : Int32) < 0 ∧ (a1 : Int32).toNatClampNeg + (a3 : Int32).toNatClampNeg ≤ 30 ∧ (a2 : Int32).toNatClampNeg + (a3 : Int32).toNatClampNeg ≤ 30 ∧ (∀ i, i < (a3 : Int32).toNatClampNeg → fits .byte (.int (F2 35 ((a1 : Int32).toNatClampNeg + i))) = true)) ∧ Q (upA F2 35 (va_cpy (F2 35) (F2 35) (a1 : Int32).toNatClampNeg (a2 : Int32).toNatClampNeg (a3 : Int32).toNatClampNeg)) G2))))))) : AMv D (d + 1) nSheet_take [.ref 35, .ref 35, .int a1, .int a2, .int a3] F G Q := by
  refine AM_intro (by decide) (Nat.le_of_ble_eq_true rfl) ?_
  intro X CX
  refine gw_aload_n CX.1 1 rfl dSheet_take_0 rfl ?_
  refine gw_iload_n CX.1 2 rfl dSheet_take_1 rfl ?_
  refine gw_iload CX.1 4 rfl dSheet_take_2 ?_
  refine cl_Sheet_hasRun_0 CX (Nat.le_of_ble_eq_true rfl) wm_Sheet_29 dSheet_take_4 H (fun x1_ F1 G1 H => ?_)
  refine gw_if_eq (tgt := 35) CX.1 dSheet_take_7 (by decide) (fun c => ?_) (fun c => ?_)
  · replace H := H.1 c
    exact gw_vret CX rfl ⟨_, _, rfl, rfl, H⟩ (Nat.zero_le _) (Nat.zero_le _) dSheet_take_35
  · replace H := H.2 c
    refine gw_aload_n CX.1 0 rfl dSheet_take_10 rfl ?_
    refine gw_iload_n CX.1 3 rfl dSheet_take_11 rfl ?_
    refine gw_iload CX.1 4 rfl dSheet_take_12 ?_
    refine cl_Sheet_hasRun_0 CX (Nat.le_of_ble_eq_true rfl) wm_Sheet_29 dSheet_take_14 H (fun x2_ F2 G2 H => ?_)
    refine gw_if_eq (tgt := 35) CX.1 dSheet_take_17 (by decide) (fun c => ?_) (fun c => ?_)
    · replace H := H.1 c
      exact gw_vret CX rfl ⟨_, _, rfl, rfl, H⟩ (Nat.zero_le _) (Nat.zero_le _) dSheet_take_35
    · replace H := H.2 c
      refine gw_aload_n CX.1 1 rfl dSheet_take_20 rfl ?_
      refine gg_Sheet_15_0 CX.1 rfl dSheet_take_21 ?_
      refine gw_iload_n CX.1 2 rfl dSheet_take_24 rfl ?_
      refine gw_aload_n CX.1 0 rfl dSheet_take_25 rfl ?_
      refine gg_Sheet_15_0 CX.1 rfl dSheet_take_26 ?_
      refine gw_iload_n CX.1 3 rfl dSheet_take_29 rfl ?_
      refine gw_iload CX.1 4 rfl dSheet_take_30 ?_
      obtain ⟨⟨h1, h2, h3, h4, h5, h6⟩, H⟩ := H
      refine gw_copy CX.1 mk_35 mk_35 rfl h1 h2 h3 h4 h5 h6 wm_Sheet_33 wac_native wac_static wini_System (Nat.le_of_ble_eq_true rfl) (gCX_copy CX) dSheet_take_32 ?_
      exact gw_vret CX rfl ⟨_, _, rfl, rfl, H⟩ (Nat.zero_le _) (Nat.zero_le _) dSheet_take_35
theorem eSheet_take_0_1 {D : va_G} {d : Nat} {Q : (Nat → Nat → Int32) → (Nat → Int64) → Prop} {F : Nat → Nat → Int32} {G : Nat → Int64} {a1 : Int32} {a2 : Int32} {a3 : Int32} (H : AMi D d nSheet_hasRun [.ref 37, .int a1, .int a3] F G (fun x1_ F1 G1 => ((x1_ = 0 → Q F1 G1) ∧ (¬ (x1_ = 0) → AMi D d nSheet_hasRun [.ref 35, .int a2, .int a3] F1 G1 (fun x2_ F2 G2 => ((x2_ = 0 → Q F2 G2) ∧ (¬ (x2_ = 0) → (¬ (a1 : Int32) < 0 ∧ ¬ (a2 : Int32) < 0 ∧ ¬ (a3 : Int32) < 0 ∧ (a1 : Int32).toNatClampNeg + (a3 : Int32).toNatClampNeg ≤ 30 ∧ (a2 : Int32).toNatClampNeg + (a3 : Int32).toNatClampNeg ≤ 30 ∧ (∀ i, i < (a3 : Int32).toNatClampNeg → fits .byte (.int (F2 37 ((a1 : Int32).toNatClampNeg + i))) = true)) ∧ Q (upA F2 35 (va_cpy (F2 37) (F2 35) (a1 : Int32).toNatClampNeg (a2 : Int32).toNatClampNeg (a3 : Int32).toNatClampNeg)) G2))))))) : AMv D (d + 1) nSheet_take [.ref 35, .ref 37, .int a1, .int a2, .int a3] F G Q := by
  refine AM_intro (by decide) (Nat.le_of_ble_eq_true rfl) ?_
  intro X CX
  refine gw_aload_n CX.1 1 rfl dSheet_take_0 rfl ?_
  refine gw_iload_n CX.1 2 rfl dSheet_take_1 rfl ?_
  refine gw_iload CX.1 4 rfl dSheet_take_2 ?_
  refine cl_Sheet_hasRun_1 CX (Nat.le_of_ble_eq_true rfl) wm_Sheet_29 dSheet_take_4 H (fun x1_ F1 G1 H => ?_)
  refine gw_if_eq (tgt := 35) CX.1 dSheet_take_7 (by decide) (fun c => ?_) (fun c => ?_)
  · replace H := H.1 c
    exact gw_vret CX rfl ⟨_, _, rfl, rfl, H⟩ (Nat.zero_le _) (Nat.zero_le _) dSheet_take_35
  · replace H := H.2 c
    refine gw_aload_n CX.1 0 rfl dSheet_take_10 rfl ?_
    refine gw_iload_n CX.1 3 rfl dSheet_take_11 rfl ?_
    refine gw_iload CX.1 4 rfl dSheet_take_12 ?_
    refine cl_Sheet_hasRun_0 CX (Nat.le_of_ble_eq_true rfl) wm_Sheet_29 dSheet_take_14 H (fun x2_ F2 G2 H => ?_)
    refine gw_if_eq (tgt := 35) CX.1 dSheet_take_17 (by decide) (fun c => ?_) (fun c => ?_)
    · replace H := H.1 c
      exact gw_vret CX rfl ⟨_, _, rfl, rfl, H⟩ (Nat.zero_le _) (Nat.zero_le _) dSheet_take_35
    · replace H := H.2 c
      refine gw_aload_n CX.1 1 rfl dSheet_take_20 rfl ?_
      refine gg_Sheet_15_1 CX.1 rfl dSheet_take_21 ?_
      refine gw_iload_n CX.1 2 rfl dSheet_take_24 rfl ?_
      refine gw_aload_n CX.1 0 rfl dSheet_take_25 rfl ?_
      refine gg_Sheet_15_0 CX.1 rfl dSheet_take_26 ?_
      refine gw_iload_n CX.1 3 rfl dSheet_take_29 rfl ?_
      refine gw_iload CX.1 4 rfl dSheet_take_30 ?_
      obtain ⟨⟨h1, h2, h3, h4, h5, h6⟩, H⟩ := H
      refine gw_copy CX.1 mk_37 mk_35 rfl h1 h2 h3 h4 h5 h6 wm_Sheet_33 wac_native wac_static wini_System (Nat.le_of_ble_eq_true rfl) (gCX_copy CX) dSheet_take_32 ?_
      exact gw_vret CX rfl ⟨_, _, rfl, rfl, H⟩ (Nat.zero_le _) (Nat.zero_le _) dSheet_take_35
theorem eSheet_take_1_0 {D : va_G} {d : Nat} {Q : (Nat → Nat → Int32) → (Nat → Int64) → Prop} {F : Nat → Nat → Int32} {G : Nat → Int64} {a1 : Int32} {a2 : Int32} {a3 : Int32} (H : AMi D d nSheet_hasRun [.ref 35, .int a1, .int a3] F G (fun x1_ F1 G1 => ((x1_ = 0 → Q F1 G1) ∧ (¬ (x1_ = 0) → AMi D d nSheet_hasRun [.ref 37, .int a2, .int a3] F1 G1 (fun x2_ F2 G2 => ((x2_ = 0 → Q F2 G2) ∧ (¬ (x2_ = 0) → (¬ (a1 : Int32) < 0 ∧ ¬ (a2 : Int32) < 0 ∧ ¬ (a3 : Int32) < 0 ∧ (a1 : Int32).toNatClampNeg + (a3 : Int32).toNatClampNeg ≤ 30 ∧ (a2 : Int32).toNatClampNeg + (a3 : Int32).toNatClampNeg ≤ 30 ∧ (∀ i, i < (a3 : Int32).toNatClampNeg → fits .byte (.int (F2 35 ((a1 : Int32).toNatClampNeg + i))) = true)) ∧ Q (upA F2 37 (va_cpy (F2 35) (F2 37) (a1 : Int32).toNatClampNeg (a2 : Int32).toNatClampNeg (a3 : Int32).toNatClampNeg)) G2))))))) : AMv D (d + 1) nSheet_take [.ref 37, .ref 35, .int a1, .int a2, .int a3] F G Q := by
  refine AM_intro (by decide) (Nat.le_of_ble_eq_true rfl) ?_
  intro X CX
  refine gw_aload_n CX.1 1 rfl dSheet_take_0 rfl ?_
  refine gw_iload_n CX.1 2 rfl dSheet_take_1 rfl ?_
  refine gw_iload CX.1 4 rfl dSheet_take_2 ?_
  refine cl_Sheet_hasRun_0 CX (Nat.le_of_ble_eq_true rfl) wm_Sheet_29 dSheet_take_4 H (fun x1_ F1 G1 H => ?_)
  refine gw_if_eq (tgt := 35) CX.1 dSheet_take_7 (by decide) (fun c => ?_) (fun c => ?_)
  · replace H := H.1 c
    exact gw_vret CX rfl ⟨_, _, rfl, rfl, H⟩ (Nat.zero_le _) (Nat.zero_le _) dSheet_take_35
  · replace H := H.2 c
    refine gw_aload_n CX.1 0 rfl dSheet_take_10 rfl ?_
    refine gw_iload_n CX.1 3 rfl dSheet_take_11 rfl ?_
    refine gw_iload CX.1 4 rfl dSheet_take_12 ?_
    refine cl_Sheet_hasRun_1 CX (Nat.le_of_ble_eq_true rfl) wm_Sheet_29 dSheet_take_14 H (fun x2_ F2 G2 H => ?_)
    refine gw_if_eq (tgt := 35) CX.1 dSheet_take_17 (by decide) (fun c => ?_) (fun c => ?_)
    · replace H := H.1 c
      exact gw_vret CX rfl ⟨_, _, rfl, rfl, H⟩ (Nat.zero_le _) (Nat.zero_le _) dSheet_take_35
    · replace H := H.2 c
      refine gw_aload_n CX.1 1 rfl dSheet_take_20 rfl ?_
      refine gg_Sheet_15_0 CX.1 rfl dSheet_take_21 ?_
      refine gw_iload_n CX.1 2 rfl dSheet_take_24 rfl ?_
      refine gw_aload_n CX.1 0 rfl dSheet_take_25 rfl ?_
      refine gg_Sheet_15_1 CX.1 rfl dSheet_take_26 ?_
      refine gw_iload_n CX.1 3 rfl dSheet_take_29 rfl ?_
      refine gw_iload CX.1 4 rfl dSheet_take_30 ?_
      obtain ⟨⟨h1, h2, h3, h4, h5, h6⟩, H⟩ := H
      refine gw_copy CX.1 mk_35 mk_37 rfl h1 h2 h3 h4 h5 h6 wm_Sheet_33 wac_native wac_static wini_System (Nat.le_of_ble_eq_true rfl) (gCX_copy CX) dSheet_take_32 ?_
      exact gw_vret CX rfl ⟨_, _, rfl, rfl, H⟩ (Nat.zero_le _) (Nat.zero_le _) dSheet_take_35
theorem eSheet_take_1_1 {D : va_G} {d : Nat} {Q : (Nat → Nat → Int32) → (Nat → Int64) → Prop} {F : Nat → Nat → Int32} {G : Nat → Int64} {a1 : Int32} {a2 : Int32} {a3 : Int32} (H : AMi D d nSheet_hasRun [.ref 37, .int a1, .int a3] F G (fun x1_ F1 G1 => ((x1_ = 0 → Q F1 G1) ∧ (¬ (x1_ = 0) → AMi D d nSheet_hasRun [.ref 37, .int a2, .int a3] F1 G1 (fun x2_ F2 G2 => ((x2_ = 0 → Q F2 G2) ∧ (¬ (x2_ = 0) → (¬ (a1 : Int32) < 0 ∧ ¬ (a2 : Int32) < 0 ∧ ¬ (a3 : Int32) < 0 ∧ (a1 : Int32).toNatClampNeg + (a3 : Int32).toNatClampNeg ≤ 30 ∧ (a2 : Int32).toNatClampNeg + (a3 : Int32).toNatClampNeg ≤ 30 ∧ (∀ i, i < (a3 : Int32).toNatClampNeg → fits .byte (.int (F2 37 ((a1 : Int32).toNatClampNeg + i))) = true)) ∧ Q (upA F2 37 (va_cpy (F2 37) (F2 37) (a1 : Int32).toNatClampNeg (a2 : Int32).toNatClampNeg (a3 : Int32).toNatClampNeg)) G2))))))) : AMv D (d + 1) nSheet_take [.ref 37, .ref 37, .int a1, .int a2, .int a3] F G Q := by
  refine AM_intro (by decide) (Nat.le_of_ble_eq_true rfl) ?_
  intro X CX
  refine gw_aload_n CX.1 1 rfl dSheet_take_0 rfl ?_
  refine gw_iload_n CX.1 2 rfl dSheet_take_1 rfl ?_
  refine gw_iload CX.1 4 rfl dSheet_take_2 ?_
  refine cl_Sheet_hasRun_1 CX (Nat.le_of_ble_eq_true rfl) wm_Sheet_29 dSheet_take_4 H (fun x1_ F1 G1 H => ?_)
  refine gw_if_eq (tgt := 35) CX.1 dSheet_take_7 (by decide) (fun c => ?_) (fun c => ?_)
  · replace H := H.1 c
    exact gw_vret CX rfl ⟨_, _, rfl, rfl, H⟩ (Nat.zero_le _) (Nat.zero_le _) dSheet_take_35
  · replace H := H.2 c
    refine gw_aload_n CX.1 0 rfl dSheet_take_10 rfl ?_
    refine gw_iload_n CX.1 3 rfl dSheet_take_11 rfl ?_
    refine gw_iload CX.1 4 rfl dSheet_take_12 ?_
    refine cl_Sheet_hasRun_1 CX (Nat.le_of_ble_eq_true rfl) wm_Sheet_29 dSheet_take_14 H (fun x2_ F2 G2 H => ?_)
    refine gw_if_eq (tgt := 35) CX.1 dSheet_take_17 (by decide) (fun c => ?_) (fun c => ?_)
    · replace H := H.1 c
      exact gw_vret CX rfl ⟨_, _, rfl, rfl, H⟩ (Nat.zero_le _) (Nat.zero_le _) dSheet_take_35
    · replace H := H.2 c
      refine gw_aload_n CX.1 1 rfl dSheet_take_20 rfl ?_
      refine gg_Sheet_15_1 CX.1 rfl dSheet_take_21 ?_
      refine gw_iload_n CX.1 2 rfl dSheet_take_24 rfl ?_
      refine gw_aload_n CX.1 0 rfl dSheet_take_25 rfl ?_
      refine gg_Sheet_15_1 CX.1 rfl dSheet_take_26 ?_
      refine gw_iload_n CX.1 3 rfl dSheet_take_29 rfl ?_
      refine gw_iload CX.1 4 rfl dSheet_take_30 ?_
      obtain ⟨⟨h1, h2, h3, h4, h5, h6⟩, H⟩ := H
      refine gw_copy CX.1 mk_37 mk_37 rfl h1 h2 h3 h4 h5 h6 wm_Sheet_33 wac_native wac_static wini_System (Nat.le_of_ble_eq_true rfl) (gCX_copy CX) dSheet_take_32 ?_
      exact gw_vret CX rfl ⟨_, _, rfl, rfl, H⟩ (Nat.zero_le _) (Nat.zero_le _) dSheet_take_35
theorem bShow_countLifts_4 {D : va_G} {d : Nat} {Q : Int32 → (Nat → Nat → Int32) → (Nat → Int64) → Prop} {F : Nat → Nat → Int32} {G : Nat → Int64} {x1 : Int32} {x2 : Int32} (H : ((30 ≤ x2 → Q x1 F G) ∧ (¬ (30 ≤ x2) → AMi D d nShow_hasLift [.ref 2, .int x2] F G (fun x1_ F1 G1 => ((x1_ = 0 → AWi D (d + 1) nShow_countLifts 4 [(0, .ref 2), (1, .int (x1 + 0)), (2, .int (x2 + 1))] [] F1 G1 Q) ∧ (¬ (x1_ = 0) → AWi D (d + 1) nShow_countLifts 4 [(0, .ref 2), (1, .int (x1 + 1)), (2, .int (x2 + 1))] [] F1 G1 Q)))))) : AWi D (d + 1) nShow_countLifts 4 [(0, .ref 2), (1, .int x1), (2, .int x2)] [] F G Q := by
  intro X CX
  refine gw_iload_n CX.1 2 rfl dShow_countLifts_4 rfl ?_
  refine gw_bipush (v := 30) CX.1 dShow_countLifts_5 (by decide) ?_
  refine gw_icmp_ge (tgt := 32) CX.1 dShow_countLifts_7 (by decide) (fun c => ?_) (fun c => ?_)
  · replace H := H.1 c
    refine gw_iload_n CX.1 1 rfl dShow_countLifts_32 rfl ?_
    exact gw_iret CX rfl rfl ⟨_, _, _, rfl, rfl, H⟩ (Nat.zero_le _) (Nat.zero_le _) dShow_countLifts_33
  · replace H := H.2 c
    refine gw_iload_n CX.1 1 rfl dShow_countLifts_10 rfl ?_
    refine gw_aload_n CX.1 0 rfl dShow_countLifts_11 rfl ?_
    refine gw_iload_n CX.1 2 rfl dShow_countLifts_12 rfl ?_
    refine cl_Show_hasLift CX (Nat.le_of_ble_eq_true rfl) wm_Show_57 dShow_countLifts_13 H (fun x1_ F1 G1 H => ?_)
    refine gw_if_eq (tgt := 23) CX.1 dShow_countLifts_16 (by decide) (fun c => ?_) (fun c => ?_)
    · replace H := H.1 c
      refine gw_iconst (v := 0) CX.1 dShow_countLifts_23 (by decide) ?_
      refine gw_iadd CX.1 dShow_countLifts_24 ?_
      refine gw_istore_n CX.1 dShow_countLifts_25 rfl (by decide) rfl ?_
      refine gw_iinc (v := (x2 + 1)) CX.1 2 rfl dShow_countLifts_26 rfl (by decide) rfl ?_
      refine gw_goto (tgt := 4) CX.1 dShow_countLifts_29 (by decide) ?_
      exact gw_sub [2, 1, 0] rfl (H X CX)
    · replace H := H.2 c
      refine gw_iconst (v := 1) CX.1 dShow_countLifts_19 (by decide) ?_
      refine gw_goto (tgt := 24) CX.1 dShow_countLifts_20 (by decide) ?_
      refine gw_iadd CX.1 dShow_countLifts_24 ?_
      refine gw_istore_n CX.1 dShow_countLifts_25 rfl (by decide) rfl ?_
      refine gw_iinc (v := (x2 + 1)) CX.1 2 rfl dShow_countLifts_26 rfl (by decide) rfl ?_
      refine gw_goto (tgt := 4) CX.1 dShow_countLifts_29 (by decide) ?_
      exact gw_sub [2, 1, 0] rfl (H X CX)
theorem eShow_countLifts {D : va_G} {d : Nat} {Q : Int32 → (Nat → Nat → Int32) → (Nat → Int64) → Prop} {F : Nat → Nat → Int32} {G : Nat → Int64} (H : AWi D (d + 1) nShow_countLifts 4 [(0, .ref 2), (1, .int 0), (2, .int 0)] [] F G Q) : AMi D (d + 1) nShow_countLifts [.ref 2] F G Q := by
  refine AM_intro (by decide) (Nat.le_of_ble_eq_true rfl) ?_
  intro X CX
  refine gw_iconst (v := 0) CX.1 dShow_countLifts_0 (by decide) ?_
  refine gw_istore_n CX.1 dShow_countLifts_1 rfl (by decide) rfl ?_
  refine gw_iconst (v := 0) CX.1 dShow_countLifts_2 (by decide) ?_
  refine gw_istore_n CX.1 dShow_countLifts_3 rfl (by decide) rfl ?_
  exact gw_sub [2, 1, 0] rfl (H X CX)
theorem eInteger_bitCount {D : va_G} {d : Nat} {Q : Int32 → (Nat → Nat → Int32) → (Nat → Int64) → Prop} {F : Nat → Nat → Int32} {G : Nat → Int64} {a0 : Int32} (H : Q ((((((((a0 - (((a0).toUInt32 >>> ((1 : Int32).toUInt32 &&& Int32.toUInt32 31)).toInt32 &&& 1431655765)) &&& 858993459) + ((((a0 - (((a0).toUInt32 >>> ((1 : Int32).toUInt32 &&& Int32.toUInt32 31)).toInt32 &&& 1431655765))).toUInt32 >>> ((2 : Int32).toUInt32 &&& Int32.toUInt32 31)).toInt32 &&& 858993459)) + (((((a0 - (((a0).toUInt32 >>> ((1 : Int32).toUInt32 &&& Int32.toUInt32 31)).toInt32 &&& 1431655765)) &&& 858993459) + ((((a0 - (((a0).toUInt32 >>> ((1 : Int32).toUInt32 &&& Int32.toUInt32 31)).toInt32 &&& 1431655765))).toUInt32 >>> ((2 : Int32).toUInt32 &&& Int32.toUInt32 31)).toInt32 &&& 858993459))).toUInt32 >>> ((4 : Int32).toUInt32 &&& Int32.toUInt32 31)).toInt32) &&& 252645135) + (((((((a0 - (((a0).toUInt32 >>> ((1 : Int32).toUInt32 &&& Int32.toUInt32 31)).toInt32 &&& 1431655765)) &&& 858993459) + ((((a0 - (((a0).toUInt32 >>> ((1 : Int32).toUInt32 &&& Int32.toUInt32 31)).toInt32 &&& 1431655765))).toUInt32 >>> ((2 : Int32).toUInt32 &&& Int32.toUInt32 31)).toInt32 &&& 858993459)) + (((((a0 - (((a0).toUInt32 >>> ((1 : Int32).toUInt32 &&& Int32.toUInt32 31)).toInt32 &&& 1431655765)) &&& 858993459) + ((((a0 - (((a0).toUInt32 >>> ((1 : Int32).toUInt32 &&& Int32.toUInt32 31)).toInt32 &&& 1431655765))).toUInt32 >>> ((2 : Int32).toUInt32 &&& Int32.toUInt32 31)).toInt32 &&& 858993459))).toUInt32 >>> ((4 : Int32).toUInt32 &&& Int32.toUInt32 31)).toInt32) &&& 252645135)).toUInt32 >>> ((8 : Int32).toUInt32 &&& Int32.toUInt32 31)).toInt32) + ((((((((a0 - (((a0).toUInt32 >>> ((1 : Int32).toUInt32 &&& Int32.toUInt32 31)).toInt32 &&& 1431655765)) &&& 858993459) + ((((a0 - (((a0).toUInt32 >>> ((1 : Int32).toUInt32 &&& Int32.toUInt32 31)).toInt32 &&& 1431655765))).toUInt32 >>> ((2 : Int32).toUInt32 &&& Int32.toUInt32 31)).toInt32 &&& 858993459)) + (((((a0 - (((a0).toUInt32 >>> ((1 : Int32).toUInt32 &&& Int32.toUInt32 31)).toInt32 &&& 1431655765)) &&& 858993459) + ((((a0 - (((a0).toUInt32 >>> ((1 : Int32).toUInt32 &&& Int32.toUInt32 31)).toInt32 &&& 1431655765))).toUInt32 >>> ((2 : Int32).toUInt32 &&& Int32.toUInt32 31)).toInt32 &&& 858993459))).toUInt32 >>> ((4 : Int32).toUInt32 &&& Int32.toUInt32 31)).toInt32) &&& 252645135) + (((((((a0 - (((a0).toUInt32 >>> ((1 : Int32).toUInt32 &&& Int32.toUInt32 31)).toInt32 &&& 1431655765)) &&& 858993459) + ((((a0 - (((a0).toUInt32 >>> ((1 : Int32).toUInt32 &&& Int32.toUInt32 31)).toInt32 &&& 1431655765))).toUInt32 >>> ((2 : Int32).toUInt32 &&& Int32.toUInt32 31)).toInt32 &&& 858993459)) + (((((a0 - (((a0).toUInt32 >>> ((1 : Int32).toUInt32 &&& Int32.toUInt32 31)).toInt32 &&& 1431655765)) &&& 858993459) + ((((a0 - (((a0).toUInt32 >>> ((1 : Int32).toUInt32 &&& Int32.toUInt32 31)).toInt32 &&& 1431655765))).toUInt32 >>> ((2 : Int32).toUInt32 &&& Int32.toUInt32 31)).toInt32 &&& 858993459))).toUInt32 >>> ((4 : Int32).toUInt32 &&& Int32.toUInt32 31)).toInt32) &&& 252645135)).toUInt32 >>> ((8 : Int32).toUInt32 &&& Int32.toUInt32 31)).toInt32)).toUInt32 >>> ((16 : Int32).toUInt32 &&& Int32.toUInt32 31)).toInt32) &&& 63) F G) : AMi D (d + 1) nInteger_bitCount [.int a0] F G Q := by
  refine AM_intro (by decide) (Nat.le_of_ble_eq_true rfl) ?_
  intro X CX
  refine gw_iload_n CX.1 0 rfl dInteger_bitCount_0 rfl ?_
  refine gw_iload_n CX.1 0 rfl dInteger_bitCount_1 rfl ?_
  refine gw_iconst (v := 1) CX.1 dInteger_bitCount_2 (by decide) ?_
  refine gw_iushr CX.1 dInteger_bitCount_3 ?_
  refine gw_ldcw CX.1 wc_Integer_265 dInteger_bitCount_4 ?_
  refine gw_iand CX.1 dInteger_bitCount_7 ?_
  refine gw_isub CX.1 dInteger_bitCount_8 ?_
  refine gw_istore_n CX.1 dInteger_bitCount_9 rfl (by decide) rfl ?_
  refine gw_iload_n CX.1 0 rfl dInteger_bitCount_10 rfl ?_
  refine gw_ldcw CX.1 wc_Integer_266 dInteger_bitCount_11 ?_
  refine gw_iand CX.1 dInteger_bitCount_14 ?_
  refine gw_iload_n CX.1 0 rfl dInteger_bitCount_15 rfl ?_
  refine gw_iconst (v := 2) CX.1 dInteger_bitCount_16 (by decide) ?_
  refine gw_iushr CX.1 dInteger_bitCount_17 ?_
  refine gw_ldcw CX.1 wc_Integer_266 dInteger_bitCount_18 ?_
  refine gw_iand CX.1 dInteger_bitCount_21 ?_
  refine gw_iadd CX.1 dInteger_bitCount_22 ?_
  refine gw_istore_n CX.1 dInteger_bitCount_23 rfl (by decide) rfl ?_
  refine gw_iload_n CX.1 0 rfl dInteger_bitCount_24 rfl ?_
  refine gw_iload_n CX.1 0 rfl dInteger_bitCount_25 rfl ?_
  refine gw_iconst (v := 4) CX.1 dInteger_bitCount_26 (by decide) ?_
  refine gw_iushr CX.1 dInteger_bitCount_27 ?_
  refine gw_iadd CX.1 dInteger_bitCount_28 ?_
  refine gw_ldcw CX.1 wc_Integer_267 dInteger_bitCount_29 ?_
  refine gw_iand CX.1 dInteger_bitCount_32 ?_
  refine gw_istore_n CX.1 dInteger_bitCount_33 rfl (by decide) rfl ?_
  refine gw_iload_n CX.1 0 rfl dInteger_bitCount_34 rfl ?_
  refine gw_iload_n CX.1 0 rfl dInteger_bitCount_35 rfl ?_
  refine gw_bipush (v := 8) CX.1 dInteger_bitCount_36 (by decide) ?_
  refine gw_iushr CX.1 dInteger_bitCount_38 ?_
  refine gw_iadd CX.1 dInteger_bitCount_39 ?_
  refine gw_istore_n CX.1 dInteger_bitCount_40 rfl (by decide) rfl ?_
  refine gw_iload_n CX.1 0 rfl dInteger_bitCount_41 rfl ?_
  refine gw_iload_n CX.1 0 rfl dInteger_bitCount_42 rfl ?_
  refine gw_bipush (v := 16) CX.1 dInteger_bitCount_43 (by decide) ?_
  refine gw_iushr CX.1 dInteger_bitCount_45 ?_
  refine gw_iadd CX.1 dInteger_bitCount_46 ?_
  refine gw_istore_n CX.1 dInteger_bitCount_47 rfl (by decide) rfl ?_
  refine gw_iload_n CX.1 0 rfl dInteger_bitCount_48 rfl ?_
  refine gw_bipush (v := 63) CX.1 dInteger_bitCount_49 (by decide) ?_
  refine gw_iand CX.1 dInteger_bitCount_51 ?_
  exact gw_iret CX rfl rfl ⟨_, _, _, rfl, rfl, H⟩ (Nat.zero_le _) (Nat.zero_le _) dInteger_bitCount_52
