theorem eCompany_addPerson {D : va_G} {d : Nat} {Q : Int32 → (Nat → Nat → Int32) → (Nat → Int64) → Prop} {F : Nat → Nat → Int32} {G : Nat → Int64} {a0 : Int32} {a1 : Int32} (H : (((F 101 0) < 10 → vp_in (F 101 0) 10 ∧ vp_in ((up F 8 ((F 101 0).toNatClampNeg) a0) 101 0) 10 ∧ Q (((upS (up (up F 8 ((F 101 0).toNatClampNeg) a0) 9 (((up F 8 ((F 101 0).toNatClampNeg) a0) 101 0).toNatClampNeg) a1) 101 (((up (up F 8 ((F 101 0).toNatClampNeg) a0) 9 (((up F 8 ((F 101 0).toNatClampNeg) a0) 101 0).toNatClampNeg) a1) 101 0) + 1)) 101 0) - 1) (upS (up (up F 8 ((F 101 0).toNatClampNeg) a0) 9 (((up F 8 ((F 101 0).toNatClampNeg) a0) 101 0).toNatClampNeg) a1) 101 (((up (up F 8 ((F 101 0).toNatClampNeg) a0) 9 (((up F 8 ((F 101 0).toNatClampNeg) a0) 101 0).toNatClampNeg) a1) 101 0) + 1)) G) ∧ (¬ ((F 101 0) < 10) → Q (-1000000003) F G))) : AMi D (d + 1) nCompany_addPerson [.ref 8, .int a0, .int a1] F G Q := by
  refine AM_intro (by decide) (Nat.le_of_ble_eq_true rfl) ?_
  intro X CX
  refine gw_aload_n CX.1 0 rfl dCompany_addPerson_0 rfl ?_
  refine gg_Company_9 CX.1 rfl dCompany_addPerson_1 ?_
  refine gw_bipush (v := 10) CX.1 dCompany_addPerson_4 (by decide) ?_
  refine gw_icmp_lt (tgt := 12) CX.1 dCompany_addPerson_6 (by decide) (fun c => ?_) (fun c => ?_)
  · replace H := H.1 c
    refine gw_aload_n CX.1 0 rfl dCompany_addPerson_12 rfl ?_
    refine gg_Company_18 CX.1 rfl dCompany_addPerson_13 ?_
    refine gw_aload_n CX.1 0 rfl dCompany_addPerson_16 rfl ?_
    refine gg_Company_9 CX.1 rfl dCompany_addPerson_17 ?_
    refine gw_iload_n CX.1 1 rfl dCompany_addPerson_20 rfl ?_
    obtain ⟨hin, H⟩ := H
    refine gs_8 CX.1 hin dCompany_addPerson_21 ?_
    refine gw_aload_n CX.1 0 rfl dCompany_addPerson_22 rfl ?_
    refine gg_Company_22 CX.1 rfl dCompany_addPerson_23 ?_
    refine gw_aload_n CX.1 0 rfl dCompany_addPerson_26 rfl ?_
    refine gg_Company_9 CX.1 rfl dCompany_addPerson_27 ?_
    refine gw_iload_n CX.1 2 rfl dCompany_addPerson_30 rfl ?_
    obtain ⟨hin, H⟩ := H
    refine gs_9 CX.1 hin dCompany_addPerson_31 ?_
    refine gw_aload_n CX.1 0 rfl dCompany_addPerson_32 rfl ?_
    refine gw_dup CX.1 dCompany_addPerson_33 rfl ?_
    refine gg_Company_9 CX.1 rfl dCompany_addPerson_34 ?_
    refine gw_iconst (v := 1) CX.1 dCompany_addPerson_37 (by decide) ?_
    refine gw_iadd CX.1 dCompany_addPerson_38 ?_
    refine gp_Company_9 CX.1 rfl dCompany_addPerson_39 ?_
    refine gw_aload_n CX.1 0 rfl dCompany_addPerson_42 rfl ?_
    refine gg_Company_9 CX.1 rfl dCompany_addPerson_43 ?_
    refine gw_iconst (v := 1) CX.1 dCompany_addPerson_46 (by decide) ?_
    refine gw_isub CX.1 dCompany_addPerson_47 ?_
    exact gw_iret CX rfl rfl ⟨_, _, _, rfl, rfl, H⟩ (Nat.zero_le _) (Nat.zero_le _) dCompany_addPerson_48
  · replace H := H.2 c
    refine gw_ldc CX.1 wc_Company_47 dCompany_addPerson_9 ?_
    exact gw_iret CX rfl rfl ⟨_, _, _, rfl, rfl, H⟩ (Nat.zero_le _) (Nat.zero_le _) dCompany_addPerson_11
theorem eCompany_isPerson {D : va_G} {d : Nat} {Q : Int32 → (Nat → Nat → Int32) → (Nat → Int64) → Prop} {F : Nat → Nat → Int32} {G : Nat → Int64} {a0 : Int32} (H : ((a0 < 0 → Q 0 F G) ∧ (¬ (a0 < 0) → (((F 101 0) ≤ a0 → Q 0 F G) ∧ (¬ ((F 101 0) ≤ a0) → Q 1 F G))))) : AMi D (d + 1) nCompany_isPerson [.ref 8, .int a0] F G Q := by
  refine AM_intro (by decide) (Nat.le_of_ble_eq_true rfl) ?_
  intro X CX
  refine gw_iload_n CX.1 1 rfl dCompany_isPerson_0 rfl ?_
  refine gw_if_lt (tgt := 16) CX.1 dCompany_isPerson_1 (by decide) (fun c => ?_) (fun c => ?_)
  · replace H := H.1 c
    refine gw_iconst (v := 0) CX.1 dCompany_isPerson_16 (by decide) ?_
    exact gw_iret CX rfl (by decide) ⟨_, _, _, rfl, rfl, H⟩ (Nat.zero_le _) (Nat.zero_le _) dCompany_isPerson_17
  · replace H := H.2 c
    refine gw_iload_n CX.1 1 rfl dCompany_isPerson_4 rfl ?_
    refine gw_aload_n CX.1 0 rfl dCompany_isPerson_5 rfl ?_
    refine gg_Company_9 CX.1 rfl dCompany_isPerson_6 ?_
    refine gw_icmp_ge (tgt := 16) CX.1 dCompany_isPerson_9 (by decide) (fun c => ?_) (fun c => ?_)
    · replace H := H.1 c
      refine gw_iconst (v := 0) CX.1 dCompany_isPerson_16 (by decide) ?_
      exact gw_iret CX rfl (by decide) ⟨_, _, _, rfl, rfl, H⟩ (Nat.zero_le _) (Nat.zero_le _) dCompany_isPerson_17
    · replace H := H.2 c
      refine gw_iconst (v := 1) CX.1 dCompany_isPerson_12 (by decide) ?_
      refine gw_goto (tgt := 17) CX.1 dCompany_isPerson_13 (by decide) ?_
      exact gw_iret CX rfl (by decide) ⟨_, _, _, rfl, rfl, H⟩ (Nat.zero_le _) (Nat.zero_le _) dCompany_isPerson_17
theorem eCompany_isOfKind {D : va_G} {d : Nat} {Q : Int32 → (Nat → Nat → Int32) → (Nat → Int64) → Prop} {F : Nat → Nat → Int32} {G : Nat → Int64} {a0 : Int32} {a1 : Int32} (H : AMi D d nCompany_isPerson [.ref 8, .int a0] F G (fun x1_ F1 G1 => ((¬ x1_ = 0 → ((a1 = 0 → Q 1 F1 G1) ∧ (¬ (a1 = 0) → vp_in a0 10 ∧ (((F1 8 a0.toNatClampNeg) = a1 → Q 1 F1 G1) ∧ (¬ ((F1 8 a0.toNatClampNeg) = a1) → ((¬ a1 = 2 → Q 0 F1 G1) ∧ (a1 = 2 → vp_in a0 10 ∧ ((¬ (F1 8 a0.toNatClampNeg) = 3 → Q 0 F1 G1) ∧ ((F1 8 a0.toNatClampNeg) = 3 → Q 1 F1 G1))))))))) ∧ (x1_ = 0 → Q 0 F1 G1)))) : AMi D (d + 1) nCompany_isOfKind [.ref 8, .int a0, .int a1] F G Q := by
  refine AM_intro (by decide) (Nat.le_of_ble_eq_true rfl) ?_
  intro X CX
  refine gw_aload_n CX.1 0 rfl dCompany_isOfKind_0 rfl ?_
  refine gw_iload_n CX.1 1 rfl dCompany_isOfKind_1 rfl ?_
  refine cl_Company_isPerson CX (Nat.le_of_ble_eq_true rfl) wm_Company_48 dCompany_isOfKind_2 H (fun x1_ F1 G1 H => ?_)
  refine gw_if_ne (tgt := 10) CX.1 dCompany_isOfKind_5 (by decide) (fun c => ?_) (fun c => ?_)
  · replace H := H.1 c
    refine gw_iload_n CX.1 2 rfl dCompany_isOfKind_10 rfl ?_
    refine gw_if_eq (tgt := 39) CX.1 dCompany_isOfKind_11 (by decide) (fun c => ?_) (fun c => ?_)
    · replace H := H.1 c
      refine gw_iconst (v := 1) CX.1 dCompany_isOfKind_39 (by decide) ?_
      refine gw_goto (tgt := 44) CX.1 dCompany_isOfKind_40 (by decide) ?_
      exact gw_iret CX rfl (by decide) ⟨_, _, _, rfl, rfl, H⟩ (Nat.zero_le _) (Nat.zero_le _) dCompany_isOfKind_44
    · replace H := H.2 c
      refine gw_aload_n CX.1 0 rfl dCompany_isOfKind_14 rfl ?_
      refine gg_Company_18 CX.1 rfl dCompany_isOfKind_15 ?_
      refine gw_iload_n CX.1 1 rfl dCompany_isOfKind_18 rfl ?_
      obtain ⟨hin, H⟩ := H
      refine ga_8 CX.1 hin dCompany_isOfKind_19 ?_
      refine gw_iload_n CX.1 2 rfl dCompany_isOfKind_20 rfl ?_
      refine gw_icmp_eq (tgt := 39) CX.1 dCompany_isOfKind_21 (by decide) (fun c => ?_) (fun c => ?_)
      · replace H := H.1 c
        refine gw_iconst (v := 1) CX.1 dCompany_isOfKind_39 (by decide) ?_
        refine gw_goto (tgt := 44) CX.1 dCompany_isOfKind_40 (by decide) ?_
        exact gw_iret CX rfl (by decide) ⟨_, _, _, rfl, rfl, H⟩ (Nat.zero_le _) (Nat.zero_le _) dCompany_isOfKind_44
      · replace H := H.2 c
        refine gw_iload_n CX.1 2 rfl dCompany_isOfKind_24 rfl ?_
        refine gw_iconst (v := 2) CX.1 dCompany_isOfKind_25 (by decide) ?_
        refine gw_icmp_ne (tgt := 43) CX.1 dCompany_isOfKind_26 (by decide) (fun c => ?_) (fun c => ?_)
        · replace H := H.1 c
          refine gw_iconst (v := 0) CX.1 dCompany_isOfKind_43 (by decide) ?_
          exact gw_iret CX rfl (by decide) ⟨_, _, _, rfl, rfl, H⟩ (Nat.zero_le _) (Nat.zero_le _) dCompany_isOfKind_44
        · replace H := H.2 c
          refine gw_aload_n CX.1 0 rfl dCompany_isOfKind_29 rfl ?_
          refine gg_Company_18 CX.1 rfl dCompany_isOfKind_30 ?_
          refine gw_iload_n CX.1 1 rfl dCompany_isOfKind_33 rfl ?_
          obtain ⟨hin, H⟩ := H
          refine ga_8 CX.1 hin dCompany_isOfKind_34 ?_
          refine gw_iconst (v := 3) CX.1 dCompany_isOfKind_35 (by decide) ?_
          refine gw_icmp_ne (tgt := 43) CX.1 dCompany_isOfKind_36 (by decide) (fun c => ?_) (fun c => ?_)
          · replace H := H.1 c
            refine gw_iconst (v := 0) CX.1 dCompany_isOfKind_43 (by decide) ?_
            exact gw_iret CX rfl (by decide) ⟨_, _, _, rfl, rfl, H⟩ (Nat.zero_le _) (Nat.zero_le _) dCompany_isOfKind_44
          · replace H := H.2 c
            refine gw_iconst (v := 1) CX.1 dCompany_isOfKind_39 (by decide) ?_
            refine gw_goto (tgt := 44) CX.1 dCompany_isOfKind_40 (by decide) ?_
            exact gw_iret CX rfl (by decide) ⟨_, _, _, rfl, rfl, H⟩ (Nat.zero_le _) (Nat.zero_le _) dCompany_isOfKind_44
  · replace H := H.2 c
    refine gw_iconst (v := 0) CX.1 dCompany_isOfKind_8 (by decide) ?_
    exact gw_iret CX rfl (by decide) ⟨_, _, _, rfl, rfl, H⟩ (Nat.zero_le _) (Nat.zero_le _) dCompany_isOfKind_9
theorem bCompany_ownerOf_2 {D : va_G} {d : Nat} {Q : Int32 → (Nat → Nat → Int32) → (Nat → Int64) → Prop} {F : Nat → Nat → Int32} {G : Nat → Int64} {x1 : Int32} {x2 : Int32} (H : (((F 101 0) ≤ x2 → Q (-1000000005) F G) ∧ (¬ ((F 101 0) ≤ x2) → AMi D d nCompany_owns [.ref 8, .int x2, .int x1] F G (fun x1_ F1 G1 => ((x1_ = 0 → AWi D (d + 1) nCompany_ownerOf 2 [(0, .ref 8), (1, .int x1), (2, .int (x2 + 1))] [] F1 G1 Q) ∧ (¬ (x1_ = 0) → Q x2 F1 G1)))))) : AWi D (d + 1) nCompany_ownerOf 2 [(0, .ref 8), (1, .int x1), (2, .int x2)] [] F G Q := by
  intro X CX
  refine gw_iload_n CX.1 2 rfl dCompany_ownerOf_2 rfl ?_
  refine gw_aload_n CX.1 0 rfl dCompany_ownerOf_3 rfl ?_
  refine gg_Company_9 CX.1 rfl dCompany_ownerOf_4 ?_
  refine gw_icmp_ge (tgt := 27) CX.1 dCompany_ownerOf_7 (by decide) (fun c => ?_) (fun c => ?_)
  · replace H := H.1 c
    refine gw_ldc CX.1 wc_Company_40 dCompany_ownerOf_27 ?_
    exact gw_iret CX rfl rfl ⟨_, _, _, rfl, rfl, H⟩ (Nat.zero_le _) (Nat.zero_le _) dCompany_ownerOf_29
  · replace H := H.2 c
    refine gw_aload_n CX.1 0 rfl dCompany_ownerOf_10 rfl ?_
    refine gw_iload_n CX.1 2 rfl dCompany_ownerOf_11 rfl ?_
    refine gw_iload_n CX.1 1 rfl dCompany_ownerOf_12 rfl ?_
    refine cl_Company_owns CX (Nat.le_of_ble_eq_true rfl) wm_Company_58 dCompany_ownerOf_13 H (fun x1_ F1 G1 H => ?_)
    refine gw_if_eq (tgt := 21) CX.1 dCompany_ownerOf_16 (by decide) (fun c => ?_) (fun c => ?_)
    · replace H := H.1 c
      refine gw_iinc (v := (x2 + 1)) CX.1 2 rfl dCompany_ownerOf_21 rfl (by decide) rfl ?_
      refine gw_goto (tgt := 2) CX.1 dCompany_ownerOf_24 (by decide) ?_
      exact gw_sub [1, 2, 0] rfl (H X CX)
    · replace H := H.2 c
      refine gw_iload_n CX.1 2 rfl dCompany_ownerOf_19 rfl ?_
      exact gw_iret CX rfl rfl ⟨_, _, _, rfl, rfl, H⟩ (Nat.zero_le _) (Nat.zero_le _) dCompany_ownerOf_20
theorem eCompany_ownerOf {D : va_G} {d : Nat} {Q : Int32 → (Nat → Nat → Int32) → (Nat → Int64) → Prop} {F : Nat → Nat → Int32} {G : Nat → Int64} {a0 : Int32} (H : AWi D (d + 1) nCompany_ownerOf 2 [(0, .ref 8), (1, .int a0), (2, .int 0)] [] F G Q) : AMi D (d + 1) nCompany_ownerOf [.ref 8, .int a0] F G Q := by
  refine AM_intro (by decide) (Nat.le_of_ble_eq_true rfl) ?_
  intro X CX
  refine gw_iconst (v := 0) CX.1 dCompany_ownerOf_0 (by decide) ?_
  refine gw_istore_n CX.1 dCompany_ownerOf_1 rfl (by decide) rfl ?_
  exact gw_sub [1, 2, 0] rfl (H X CX)
theorem eCompany_owns {D : va_G} {d : Nat} {Q : Int32 → (Nat → Nat → Int32) → (Nat → Int64) → Prop} {F : Nat → Nat → Int32} {G : Nat → Int64} {a0 : Int32} {a1 : Int32} (H : AMi D d nCompany_isPerson [.ref 8, .int a0] F G (fun x1_ F1 G1 => ((x1_ = 0 → Q 0 F1 G1) ∧ (¬ (x1_ = 0) → ((a1 = (-1000000005) → Q 0 F1 G1) ∧ (¬ (a1 = (-1000000005)) → vp_in a0 10 ∧ ((¬ (F1 10 a0.toNatClampNeg) = a1 → Q 0 F1 G1) ∧ ((F1 10 a0.toNatClampNeg) = a1 → Q 1 F1 G1)))))))) : AMi D (d + 1) nCompany_owns [.ref 8, .int a0, .int a1] F G Q := by
  refine AM_intro (by decide) (Nat.le_of_ble_eq_true rfl) ?_
  intro X CX
  refine gw_aload_n CX.1 0 rfl dCompany_owns_0 rfl ?_
  refine gw_iload_n CX.1 1 rfl dCompany_owns_1 rfl ?_
  refine cl_Company_isPerson CX (Nat.le_of_ble_eq_true rfl) wm_Company_48 dCompany_owns_2 H (fun x1_ F1 G1 H => ?_)
  refine gw_if_eq (tgt := 28) CX.1 dCompany_owns_5 (by decide) (fun c => ?_) (fun c => ?_)
  · replace H := H.1 c
    refine gw_iconst (v := 0) CX.1 dCompany_owns_28 (by decide) ?_
    exact gw_iret CX rfl (by decide) ⟨_, _, _, rfl, rfl, H⟩ (Nat.zero_le _) (Nat.zero_le _) dCompany_owns_29
  · replace H := H.2 c
    refine gw_iload_n CX.1 2 rfl dCompany_owns_8 rfl ?_
    refine gw_ldc CX.1 wc_Company_40 dCompany_owns_9 ?_
    refine gw_icmp_eq (tgt := 28) CX.1 dCompany_owns_11 (by decide) (fun c => ?_) (fun c => ?_)
    · replace H := H.1 c
      refine gw_iconst (v := 0) CX.1 dCompany_owns_28 (by decide) ?_
      exact gw_iret CX rfl (by decide) ⟨_, _, _, rfl, rfl, H⟩ (Nat.zero_le _) (Nat.zero_le _) dCompany_owns_29
    · replace H := H.2 c
      refine gw_aload_n CX.1 0 rfl dCompany_owns_14 rfl ?_
      refine gg_Company_25 CX.1 rfl dCompany_owns_15 ?_
      refine gw_iload_n CX.1 1 rfl dCompany_owns_18 rfl ?_
      obtain ⟨hin, H⟩ := H
      refine ga_10 CX.1 hin dCompany_owns_19 ?_
      refine gw_iload_n CX.1 2 rfl dCompany_owns_20 rfl ?_
      refine gw_icmp_ne (tgt := 28) CX.1 dCompany_owns_21 (by decide) (fun c => ?_) (fun c => ?_)
      · replace H := H.1 c
        refine gw_iconst (v := 0) CX.1 dCompany_owns_28 (by decide) ?_
        exact gw_iret CX rfl (by decide) ⟨_, _, _, rfl, rfl, H⟩ (Nat.zero_le _) (Nat.zero_le _) dCompany_owns_29
      · replace H := H.2 c
        refine gw_iconst (v := 1) CX.1 dCompany_owns_24 (by decide) ?_
        refine gw_goto (tgt := 29) CX.1 dCompany_owns_25 (by decide) ?_
        exact gw_iret CX rfl (by decide) ⟨_, _, _, rfl, rfl, H⟩ (Nat.zero_le _) (Nat.zero_le _) dCompany_owns_29
theorem eCompany_ownedBy {D : va_G} {d : Nat} {Q : Int32 → (Nat → Nat → Int32) → (Nat → Int64) → Prop} {F : Nat → Nat → Int32} {G : Nat → Int64} {a0 : Int32} (H : AMi D d nCompany_isPerson [.ref 8, .int a0] F G (fun x1_ F1 G1 => ((x1_ = 0 → Q (-1000000005) F1 G1) ∧ (¬ (x1_ = 0) → vp_in a0 10 ∧ Q (F1 10 a0.toNatClampNeg) F1 G1)))) : AMi D (d + 1) nCompany_ownedBy [.ref 8, .int a0] F G Q := by
  refine AM_intro (by decide) (Nat.le_of_ble_eq_true rfl) ?_
  intro X CX
  refine gw_aload_n CX.1 0 rfl dCompany_ownedBy_0 rfl ?_
  refine gw_iload_n CX.1 1 rfl dCompany_ownedBy_1 rfl ?_
  refine cl_Company_isPerson CX (Nat.le_of_ble_eq_true rfl) wm_Company_48 dCompany_ownedBy_2 H (fun x1_ F1 G1 H => ?_)
  refine gw_if_eq (tgt := 17) CX.1 dCompany_ownedBy_5 (by decide) (fun c => ?_) (fun c => ?_)
  · replace H := H.1 c
    refine gw_ldc CX.1 wc_Company_40 dCompany_ownedBy_17 ?_
    exact gw_iret CX rfl rfl ⟨_, _, _, rfl, rfl, H⟩ (Nat.zero_le _) (Nat.zero_le _) dCompany_ownedBy_19
  · replace H := H.2 c
    refine gw_aload_n CX.1 0 rfl dCompany_ownedBy_8 rfl ?_
    refine gg_Company_25 CX.1 rfl dCompany_ownedBy_9 ?_
    refine gw_iload_n CX.1 1 rfl dCompany_ownedBy_12 rfl ?_
    obtain ⟨hin, H⟩ := H
    refine ga_10 CX.1 hin dCompany_ownedBy_13 ?_
    refine gw_goto (tgt := 19) CX.1 dCompany_ownedBy_14 (by decide) ?_
    exact gw_iret CX rfl rfl ⟨_, _, _, rfl, rfl, H⟩ (Nat.zero_le _) (Nat.zero_le _) dCompany_ownedBy_19
theorem eCompany_setOwned {D : va_G} {d : Nat} {Q : (Nat → Nat → Int32) → (Nat → Int64) → Prop} {F : Nat → Nat → Int32} {G : Nat → Int64} {a0 : Int32} {a1 : Int32} (H : AMi D d nCompany_isPerson [.ref 8, .int a0] F G (fun x1_ F1 G1 => ((x1_ = 0 → Q F1 G1) ∧ (¬ (x1_ = 0) → vp_in a0 10 ∧ Q (up F1 10 (a0.toNatClampNeg) a1) G1)))) : AMv D (d + 1) nCompany_setOwned [.ref 8, .int a0, .int a1] F G Q := by
  refine AM_intro (by decide) (Nat.le_of_ble_eq_true rfl) ?_
  intro X CX
  refine gw_aload_n CX.1 0 rfl dCompany_setOwned_0 rfl ?_
  refine gw_iload_n CX.1 1 rfl dCompany_setOwned_1 rfl ?_
  refine cl_Company_isPerson CX (Nat.le_of_ble_eq_true rfl) wm_Company_48 dCompany_setOwned_2 H (fun x1_ F1 G1 H => ?_)
  refine gw_if_eq (tgt := 15) CX.1 dCompany_setOwned_5 (by decide) (fun c => ?_) (fun c => ?_)
  · replace H := H.1 c
    exact gw_vret CX rfl ⟨_, _, rfl, rfl, H⟩ (Nat.zero_le _) (Nat.zero_le _) dCompany_setOwned_15
  · replace H := H.2 c
    refine gw_aload_n CX.1 0 rfl dCompany_setOwned_8 rfl ?_
    refine gg_Company_25 CX.1 rfl dCompany_setOwned_9 ?_
    refine gw_iload_n CX.1 1 rfl dCompany_setOwned_12 rfl ?_
    refine gw_iload_n CX.1 2 rfl dCompany_setOwned_13 rfl ?_
    obtain ⟨hin, H⟩ := H
    refine gs_10 CX.1 hin dCompany_setOwned_14 ?_
    exact gw_vret CX rfl ⟨_, _, rfl, rfl, H⟩ (Nat.zero_le _) (Nat.zero_le _) dCompany_setOwned_15
theorem bCompany_daysSinceDid_22 {D : va_G} {d : Nat} {Q : Int32 → (Nat → Nat → Int32) → (Nat → Int64) → Prop} {F : Nat → Nat → Int32} {G : Nat → Int64} {x1 : Int32} {x2 : Int32} (H : AWi D (d + 1) nCompany_daysSinceDid 23 [(0, .ref 8), (1, .int x1), (2, .int x2)] [.int 0] F G Q) : AWi D (d + 1) nCompany_daysSinceDid 22 [(0, .ref 8), (1, .int x1), (2, .int x2)] [] F G Q := by
  intro X CX
  refine gw_iconst (v := 0) CX.1 dCompany_daysSinceDid_22 (by decide) ?_
  exact H X CX
theorem bCompany_daysSinceDid_23 {D : va_G} {d : Nat} {Q : Int32 → (Nat → Nat → Int32) → (Nat → Int64) → Prop} {F : Nat → Nat → Int32} {G : Nat → Int64} {x1 : Int32} {x2 : Int32} {s0 : Int32} (H : ((s0 = 0 → Q (-1000000005) F G) ∧ (¬ (s0 = 0) → vp_in ((x1 * 8) + x2) 80 ∧ AMi D d nCompany_sinceDay [.ref 8, .int (F 11 ((x1 * 8) + x2).toNatClampNeg)] F G (fun x1_ F1 G1 => Q x1_ F1 G1)))) : AWi D (d + 1) nCompany_daysSinceDid 23 [(0, .ref 8), (1, .int x1), (2, .int x2)] [.int s0] F G Q := by
  intro X CX
  refine gw_istore_n CX.1 dCompany_daysSinceDid_23 rfl (by decide) rfl ?_
  refine gw_iload_n CX.1 0 rfl dCompany_daysSinceDid_24 rfl ?_
  refine gw_if_eq (tgt := 46) CX.1 dCompany_daysSinceDid_25 (by decide) (fun c => ?_) (fun c => ?_)
  · replace H := H.1 c
    refine gw_ldc CX.1 wc_Company_40 dCompany_daysSinceDid_46 ?_
    exact gw_iret CX rfl rfl ⟨_, _, _, rfl, rfl, H⟩ (Nat.zero_le _) (Nat.zero_le _) dCompany_daysSinceDid_48
  · replace H := H.2 c
    refine gw_aload_n CX.1 1 rfl dCompany_daysSinceDid_28 rfl ?_
    refine gw_aload_n CX.1 1 rfl dCompany_daysSinceDid_29 rfl ?_
    refine gg_Company_28 CX.1 rfl dCompany_daysSinceDid_30 ?_
    refine gw_iload_n CX.1 2 rfl dCompany_daysSinceDid_33 rfl ?_
    refine gw_bipush (v := 8) CX.1 dCompany_daysSinceDid_34 (by decide) ?_
    refine gw_imul CX.1 dCompany_daysSinceDid_36 ?_
    refine gw_iload_n CX.1 3 rfl dCompany_daysSinceDid_37 rfl ?_
    refine gw_iadd CX.1 dCompany_daysSinceDid_38 ?_
    obtain ⟨hin, H⟩ := H
    refine ga_11 CX.1 hin dCompany_daysSinceDid_39 ?_
    refine cl_Company_sinceDay CX (Nat.le_of_ble_eq_true rfl) wm_Company_66 dCompany_daysSinceDid_40 H (fun x1_ F1 G1 H => ?_)
    refine gw_goto (tgt := 48) CX.1 dCompany_daysSinceDid_43 (by decide) ?_
    exact gw_iret CX rfl rfl ⟨_, _, _, rfl, rfl, H⟩ (Nat.zero_le _) (Nat.zero_le _) dCompany_daysSinceDid_48
theorem eCompany_daysSinceDid {D : va_G} {d : Nat} {Q : Int32 → (Nat → Nat → Int32) → (Nat → Int64) → Prop} {F : Nat → Nat → Int32} {G : Nat → Int64} {a0 : Int32} {a1 : Int32} (H : AMi D d nCompany_isPerson [.ref 8, .int a0] F G (fun x1_ F1 G1 => ((x1_ = 0 → AWi D (d + 1) nCompany_daysSinceDid 22 [(0, .ref 8), (1, .int a0), (2, .int a1)] [] F1 G1 Q) ∧ (¬ (x1_ = 0) → AMi D d nDesk_isWithin [.int a1, .int 0, .int 7] F1 G1 (fun x2_ F2 G2 => ((x2_ = 0 → AWi D (d + 1) nCompany_daysSinceDid 22 [(0, .ref 8), (1, .int a0), (2, .int a1)] [] F2 G2 Q) ∧ (¬ (x2_ = 0) → AWi D (d + 1) nCompany_daysSinceDid 23 [(0, .ref 8), (1, .int a0), (2, .int a1)] [.int 1] F2 G2 Q))))))) : AMi D (d + 1) nCompany_daysSinceDid [.ref 8, .int a0, .int a1] F G Q := by
  refine AM_intro (by decide) (Nat.le_of_ble_eq_true rfl) ?_
  intro X CX
  refine gw_aload_n CX.1 0 rfl dCompany_daysSinceDid_0 rfl ?_
  refine gw_iload_n CX.1 1 rfl dCompany_daysSinceDid_1 rfl ?_
  refine cl_Company_isPerson CX (Nat.le_of_ble_eq_true rfl) wm_Company_48 dCompany_daysSinceDid_2 H (fun x1_ F1 G1 H => ?_)
  refine gw_if_eq (tgt := 22) CX.1 dCompany_daysSinceDid_5 (by decide) (fun c => ?_) (fun c => ?_)
  · replace H := H.1 c
    exact H X CX
  · replace H := H.2 c
    refine gw_iload_n CX.1 2 rfl dCompany_daysSinceDid_8 rfl ?_
    refine gw_iconst (v := 0) CX.1 dCompany_daysSinceDid_9 (by decide) ?_
    refine gw_bipush (v := 7) CX.1 dCompany_daysSinceDid_10 (by decide) ?_
    refine cn_Desk_isWithin CX (Nat.le_of_ble_eq_true rfl) wm_Company_62 dCompany_daysSinceDid_12 H (fun x2_ F2 G2 H => ?_)
    refine gw_if_eq (tgt := 22) CX.1 dCompany_daysSinceDid_15 (by decide) (fun c => ?_) (fun c => ?_)
    · replace H := H.1 c
      exact H X CX
    · replace H := H.2 c
      refine gw_iconst (v := 1) CX.1 dCompany_daysSinceDid_18 (by decide) ?_
      refine gw_goto (tgt := 23) CX.1 dCompany_daysSinceDid_19 (by decide) ?_
      exact H X CX
theorem eCompany_sinceDay {D : va_G} {d : Nat} {Q : Int32 → (Nat → Nat → Int32) → (Nat → Int64) → Prop} {F : Nat → Nat → Int32} {G : Nat → Int64} {a0 : Int32} (H : ((¬ a0 = (-1) → Q ((F 102 0) - a0) F G) ∧ (a0 = (-1) → Q (-1000000005) F G))) : AMi D (d + 1) nCompany_sinceDay [.ref 8, .int a0] F G Q := by
  refine AM_intro (by decide) (Nat.le_of_ble_eq_true rfl) ?_
  intro X CX
  refine gw_iload_n CX.1 1 rfl dCompany_sinceDay_0 rfl ?_
  refine gw_iconst (v := (-1)) CX.1 dCompany_sinceDay_1 (by decide) ?_
  refine gw_icmp_ne (tgt := 10) CX.1 dCompany_sinceDay_2 (by decide) (fun c => ?_) (fun c => ?_)
  · replace H := H.1 c
    refine gw_aload_n CX.1 0 rfl dCompany_sinceDay_10 rfl ?_
    refine gg_Company_15 CX.1 rfl dCompany_sinceDay_11 ?_
    refine gw_iload_n CX.1 1 rfl dCompany_sinceDay_14 rfl ?_
    refine gw_isub CX.1 dCompany_sinceDay_15 ?_
    exact gw_iret CX rfl rfl ⟨_, _, _, rfl, rfl, H⟩ (Nat.zero_le _) (Nat.zero_le _) dCompany_sinceDay_16
  · replace H := H.2 c
    refine gw_ldc CX.1 wc_Company_40 dCompany_sinceDay_5 ?_
    refine gw_goto (tgt := 16) CX.1 dCompany_sinceDay_7 (by decide) ?_
    exact gw_iret CX rfl rfl ⟨_, _, _, rfl, rfl, H⟩ (Nat.zero_le _) (Nat.zero_le _) dCompany_sinceDay_16
theorem eCompany_setDidToday {D : va_G} {d : Nat} {Q : (Nat → Nat → Int32) → (Nat → Int64) → Prop} {F : Nat → Nat → Int32} {G : Nat → Int64} {a0 : Int32} {a1 : Int32} (H : AMi D d nCompany_isPerson [.ref 8, .int a0] F G (fun x1_ F1 G1 => ((x1_ = 0 → Q F1 G1) ∧ (¬ (x1_ = 0) → AMi D d nDesk_isWithin [.int a1, .int 0, .int 7] F1 G1 (fun x2_ F2 G2 => ((x2_ = 0 → Q F2 G2) ∧ (¬ (x2_ = 0) → vp_in ((a0 * 8) + a1) 80 ∧ Q (up F2 11 (((a0 * 8) + a1).toNatClampNeg) (F2 102 0)) G2))))))) : AMv D (d + 1) nCompany_setDidToday [.ref 8, .int a0, .int a1] F G Q := by
  refine AM_intro (by decide) (Nat.le_of_ble_eq_true rfl) ?_
  intro X CX
  refine gw_aload_n CX.1 0 rfl dCompany_setDidToday_0 rfl ?_
  refine gw_iload_n CX.1 1 rfl dCompany_setDidToday_1 rfl ?_
  refine cl_Company_isPerson CX (Nat.le_of_ble_eq_true rfl) wm_Company_48 dCompany_setDidToday_2 H (fun x1_ F1 G1 H => ?_)
  refine gw_if_eq (tgt := 33) CX.1 dCompany_setDidToday_5 (by decide) (fun c => ?_) (fun c => ?_)
  · replace H := H.1 c
    exact gw_vret CX rfl ⟨_, _, rfl, rfl, H⟩ (Nat.zero_le _) (Nat.zero_le _) dCompany_setDidToday_33
  · replace H := H.2 c
    refine gw_iload_n CX.1 2 rfl dCompany_setDidToday_8 rfl ?_
    refine gw_iconst (v := 0) CX.1 dCompany_setDidToday_9 (by decide) ?_
    refine gw_bipush (v := 7) CX.1 dCompany_setDidToday_10 (by decide) ?_
    refine cn_Desk_isWithin CX (Nat.le_of_ble_eq_true rfl) wm_Company_62 dCompany_setDidToday_12 H (fun x2_ F2 G2 H => ?_)
    refine gw_if_eq (tgt := 33) CX.1 dCompany_setDidToday_15 (by decide) (fun c => ?_) (fun c => ?_)
    · replace H := H.1 c
      exact gw_vret CX rfl ⟨_, _, rfl, rfl, H⟩ (Nat.zero_le _) (Nat.zero_le _) dCompany_setDidToday_33
    · replace H := H.2 c
      refine gw_aload_n CX.1 0 rfl dCompany_setDidToday_18 rfl ?_
      refine gg_Company_28 CX.1 rfl dCompany_setDidToday_19 ?_
      refine gw_iload_n CX.1 1 rfl dCompany_setDidToday_22 rfl ?_
      refine gw_bipush (v := 8) CX.1 dCompany_setDidToday_23 (by decide) ?_
      refine gw_imul CX.1 dCompany_setDidToday_25 ?_
      refine gw_iload_n CX.1 2 rfl dCompany_setDidToday_26 rfl ?_
      refine gw_iadd CX.1 dCompany_setDidToday_27 ?_
      refine gw_aload_n CX.1 0 rfl dCompany_setDidToday_28 rfl ?_
      refine gg_Company_15 CX.1 rfl dCompany_setDidToday_29 ?_
      obtain ⟨hin, H⟩ := H
      refine gs_11 CX.1 hin dCompany_setDidToday_32 ?_
      exact gw_vret CX rfl ⟨_, _, rfl, rfl, H⟩ (Nat.zero_le _) (Nat.zero_le _) dCompany_setDidToday_33
theorem eCompany_knows {D : va_G} {d : Nat} {Q : Int32 → (Nat → Nat → Int32) → (Nat → Int64) → Prop} {F : Nat → Nat → Int32} {G : Nat → Int64} {a0 : Int32} {a1 : Int32} (H : AMi D d nCompany_daysSinceDid [.ref 8, .int a0, .int a1] F G (fun x1_ F1 G1 => ((x1_ = (-1000000005) → Q 0 F1 G1) ∧ (¬ (x1_ = (-1000000005)) → Q 1 F1 G1)))) : AMi D (d + 1) nCompany_knows [.ref 8, .int a0, .int a1] F G Q := by
  refine AM_intro (by decide) (Nat.le_of_ble_eq_true rfl) ?_
  intro X CX
  refine gw_aload_n CX.1 0 rfl dCompany_knows_0 rfl ?_
  refine gw_iload_n CX.1 1 rfl dCompany_knows_1 rfl ?_
  refine gw_iload_n CX.1 2 rfl dCompany_knows_2 rfl ?_
  refine cl_Company_daysSinceDid CX (Nat.le_of_ble_eq_true rfl) wm_Company_69 dCompany_knows_3 H (fun x1_ F1 G1 H => ?_)
  refine gw_ldc CX.1 wc_Company_40 dCompany_knows_6 ?_
  refine gw_icmp_eq (tgt := 15) CX.1 dCompany_knows_8 (by decide) (fun c => ?_) (fun c => ?_)
  · replace H := H.1 c
    refine gw_iconst (v := 0) CX.1 dCompany_knows_15 (by decide) ?_
    exact gw_iret CX rfl (by decide) ⟨_, _, _, rfl, rfl, H⟩ (Nat.zero_le _) (Nat.zero_le _) dCompany_knows_16
  · replace H := H.2 c
    refine gw_iconst (v := 1) CX.1 dCompany_knows_11 (by decide) ?_
    refine gw_goto (tgt := 16) CX.1 dCompany_knows_12 (by decide) ?_
    exact gw_iret CX rfl (by decide) ⟨_, _, _, rfl, rfl, H⟩ (Nat.zero_le _) (Nat.zero_le _) dCompany_knows_16
theorem bCompany_isFresh_30 {D : va_G} {d : Nat} {Q : Int32 → (Nat → Nat → Int32) → (Nat → Int64) → Prop} {F : Nat → Nat → Int32} {G : Nat → Int64} {x1 : Int32} {x2 : Int32} {x3 : Int32} {s0 : Int32} {s1 : Int32} (H : ((s0 ≤ s1 → Q 0 F G) ∧ (¬ (s0 ≤ s1) → Q 1 F G))) : AWi D (d + 1) nCompany_isFresh 30 [(0, .ref 8), (1, .int x1), (2, .int x2), (3, .int x3)] [.int s0, .int s1] F G Q := by
  intro X CX
  refine gw_icmp_ge (tgt := 37) CX.1 dCompany_isFresh_30 (by decide) (fun c => ?_) (fun c => ?_)
  · replace H := H.1 c
    refine gw_iconst (v := 0) CX.1 dCompany_isFresh_37 (by decide) ?_
    exact gw_iret CX rfl (by decide) ⟨_, _, _, rfl, rfl, H⟩ (Nat.zero_le _) (Nat.zero_le _) dCompany_isFresh_38
  · replace H := H.2 c
    refine gw_iconst (v := 1) CX.1 dCompany_isFresh_33 (by decide) ?_
    refine gw_goto (tgt := 38) CX.1 dCompany_isFresh_34 (by decide) ?_
    exact gw_iret CX rfl (by decide) ⟨_, _, _, rfl, rfl, H⟩ (Nat.zero_le _) (Nat.zero_le _) dCompany_isFresh_38
theorem eCompany_isFresh {D : va_G} {d : Nat} {Q : Int32 → (Nat → Nat → Int32) → (Nat → Int64) → Prop} {F : Nat → Nat → Int32} {G : Nat → Int64} {a0 : Int32} {a1 : Int32} (H : AMi D d nCompany_daysSinceDid [.ref 8, .int a0, .int a1] F G (fun x1_ F1 G1 => ((x1_ = (-1000000005) → Q 0 F1 G1) ∧ (¬ (x1_ = (-1000000005)) → AMi D d nCompany_isOfKind [.ref 8, .int a0, .int 2] F1 G1 (fun x2_ F2 G2 => ((x2_ = 0 → AWi D (d + 1) nCompany_isFresh 30 [(0, .ref 8), (1, .int a0), (2, .int a1), (3, .int x1_)] [.int 30, .int x1_] F2 G2 Q) ∧ (¬ (x2_ = 0) → AWi D (d + 1) nCompany_isFresh 30 [(0, .ref 8), (1, .int a0), (2, .int a1), (3, .int x1_)] [.int 60, .int x1_] F2 G2 Q))))))) : AMi D (d + 1) nCompany_isFresh [.ref 8, .int a0, .int a1] F G Q := by
  refine AM_intro (by decide) (Nat.le_of_ble_eq_true rfl) ?_
  intro X CX
  refine gw_aload_n CX.1 0 rfl dCompany_isFresh_0 rfl ?_
  refine gw_iload_n CX.1 1 rfl dCompany_isFresh_1 rfl ?_
  refine gw_iload_n CX.1 2 rfl dCompany_isFresh_2 rfl ?_
  refine cl_Company_daysSinceDid CX (Nat.le_of_ble_eq_true rfl) wm_Company_69 dCompany_isFresh_3 H (fun x1_ F1 G1 H => ?_)
  refine gw_istore_n CX.1 dCompany_isFresh_6 rfl (by decide) rfl ?_
  refine gw_iload_n CX.1 0 rfl dCompany_isFresh_7 rfl ?_
  refine gw_ldc CX.1 wc_Company_40 dCompany_isFresh_8 ?_
  refine gw_icmp_eq (tgt := 37) CX.1 dCompany_isFresh_10 (by decide) (fun c => ?_) (fun c => ?_)
  · replace H := H.1 c
    refine gw_iconst (v := 0) CX.1 dCompany_isFresh_37 (by decide) ?_
    exact gw_iret CX rfl (by decide) ⟨_, _, _, rfl, rfl, H⟩ (Nat.zero_le _) (Nat.zero_le _) dCompany_isFresh_38
  · replace H := H.2 c
    refine gw_iload_n CX.1 0 rfl dCompany_isFresh_13 rfl ?_
    refine gw_aload_n CX.1 1 rfl dCompany_isFresh_14 rfl ?_
    refine gw_iload_n CX.1 2 rfl dCompany_isFresh_15 rfl ?_
    refine gw_iconst (v := 2) CX.1 dCompany_isFresh_16 (by decide) ?_
    refine cl_Company_isOfKind CX (Nat.le_of_ble_eq_true rfl) wm_Company_73 dCompany_isFresh_17 H (fun x2_ F2 G2 H => ?_)
    refine gw_if_eq (tgt := 28) CX.1 dCompany_isFresh_20 (by decide) (fun c => ?_) (fun c => ?_)
    · replace H := H.1 c
      refine gw_bipush (v := 30) CX.1 dCompany_isFresh_28 (by decide) ?_
      exact gw_sub [1, 2, 3, 0] rfl (H X CX)
    · replace H := H.2 c
      refine gw_bipush (v := 60) CX.1 dCompany_isFresh_23 (by decide) ?_
      refine gw_goto (tgt := 30) CX.1 dCompany_isFresh_25 (by decide) ?_
      exact gw_sub [1, 2, 3, 0] rfl (H X CX)
theorem eCompany_areTwo {D : va_G} {d : Nat} {Q : Int32 → (Nat → Nat → Int32) → (Nat → Int64) → Prop} {F : Nat → Nat → Int32} {G : Nat → Int64} {a0 : Int32} {a1 : Int32} (H : AMi D d nCompany_isPerson [.ref 8, .int a0] F G (fun x1_ F1 G1 => ((x1_ = 0 → Q 0 F1 G1) ∧ (¬ (x1_ = 0) → AMi D d nCompany_isPerson [.ref 8, .int a1] F1 G1 (fun x2_ F2 G2 => ((x2_ = 0 → Q 0 F2 G2) ∧ (¬ (x2_ = 0) → ((a0 = a1 → Q 0 F2 G2) ∧ (¬ (a0 = a1) → Q 1 F2 G2))))))))) : AMi D (d + 1) nCompany_areTwo [.ref 8, .int a0, .int a1] F G Q := by
  refine AM_intro (by decide) (Nat.le_of_ble_eq_true rfl) ?_
  intro X CX
  refine gw_aload_n CX.1 0 rfl dCompany_areTwo_0 rfl ?_
  refine gw_iload_n CX.1 1 rfl dCompany_areTwo_1 rfl ?_
  refine cl_Company_isPerson CX (Nat.le_of_ble_eq_true rfl) wm_Company_48 dCompany_areTwo_2 H (fun x1_ F1 G1 H => ?_)
  refine gw_if_eq (tgt := 25) CX.1 dCompany_areTwo_5 (by decide) (fun c => ?_) (fun c => ?_)
  · replace H := H.1 c
    refine gw_iconst (v := 0) CX.1 dCompany_areTwo_25 (by decide) ?_
    exact gw_iret CX rfl (by decide) ⟨_, _, _, rfl, rfl, H⟩ (Nat.zero_le _) (Nat.zero_le _) dCompany_areTwo_26
  · replace H := H.2 c
    refine gw_aload_n CX.1 0 rfl dCompany_areTwo_8 rfl ?_
    refine gw_iload_n CX.1 2 rfl dCompany_areTwo_9 rfl ?_
    refine cl_Company_isPerson CX (Nat.le_of_ble_eq_true rfl) wm_Company_48 dCompany_areTwo_10 H (fun x2_ F2 G2 H => ?_)
    refine gw_if_eq (tgt := 25) CX.1 dCompany_areTwo_13 (by decide) (fun c => ?_) (fun c => ?_)
    · replace H := H.1 c
      refine gw_iconst (v := 0) CX.1 dCompany_areTwo_25 (by decide) ?_
      exact gw_iret CX rfl (by decide) ⟨_, _, _, rfl, rfl, H⟩ (Nat.zero_le _) (Nat.zero_le _) dCompany_areTwo_26
    · replace H := H.2 c
      refine gw_iload_n CX.1 1 rfl dCompany_areTwo_16 rfl ?_
      refine gw_iload_n CX.1 2 rfl dCompany_areTwo_17 rfl ?_
      refine gw_icmp_eq (tgt := 25) CX.1 dCompany_areTwo_18 (by decide) (fun c => ?_) (fun c => ?_)
      · replace H := H.1 c
        refine gw_iconst (v := 0) CX.1 dCompany_areTwo_25 (by decide) ?_
        exact gw_iret CX rfl (by decide) ⟨_, _, _, rfl, rfl, H⟩ (Nat.zero_le _) (Nat.zero_le _) dCompany_areTwo_26
      · replace H := H.2 c
        refine gw_iconst (v := 1) CX.1 dCompany_areTwo_21 (by decide) ?_
        refine gw_goto (tgt := 26) CX.1 dCompany_areTwo_22 (by decide) ?_
        exact gw_iret CX rfl (by decide) ⟨_, _, _, rfl, rfl, H⟩ (Nat.zero_le _) (Nat.zero_le _) dCompany_areTwo_26
theorem bCompany_daysSinceRehearsed_20 {D : va_G} {d : Nat} {Q : Int32 → (Nat → Nat → Int32) → (Nat → Int64) → Prop} {F : Nat → Nat → Int32} {G : Nat → Int64} {x1 : Int32} {x2 : Int32} (H : AWi D (d + 1) nCompany_daysSinceRehearsed 21 [(0, .ref 8), (1, .int x1), (2, .int x2)] [.int 0] F G Q) : AWi D (d + 1) nCompany_daysSinceRehearsed 20 [(0, .ref 8), (1, .int x1), (2, .int x2)] [] F G Q := by
  intro X CX
  refine gw_iconst (v := 0) CX.1 dCompany_daysSinceRehearsed_20 (by decide) ?_
  exact H X CX
theorem bCompany_daysSinceRehearsed_21 {D : va_G} {d : Nat} {Q : Int32 → (Nat → Nat → Int32) → (Nat → Int64) → Prop} {F : Nat → Nat → Int32} {G : Nat → Int64} {x1 : Int32} {x2 : Int32} {s0 : Int32} (H : ((s0 = 0 → Q (-1000000005) F G) ∧ (¬ (s0 = 0) → vp_in ((x1 * 10) + x2) 100 ∧ AMi D d nCompany_sinceDay [.ref 8, .int (F 12 ((x1 * 10) + x2).toNatClampNeg)] F G (fun x1_ F1 G1 => Q x1_ F1 G1)))) : AWi D (d + 1) nCompany_daysSinceRehearsed 21 [(0, .ref 8), (1, .int x1), (2, .int x2)] [.int s0] F G Q := by
  intro X CX
  refine gw_istore_n CX.1 dCompany_daysSinceRehearsed_21 rfl (by decide) rfl ?_
  refine gw_iload_n CX.1 0 rfl dCompany_daysSinceRehearsed_22 rfl ?_
  refine gw_if_eq (tgt := 44) CX.1 dCompany_daysSinceRehearsed_23 (by decide) (fun c => ?_) (fun c => ?_)
  · replace H := H.1 c
    refine gw_ldc CX.1 wc_Company_40 dCompany_daysSinceRehearsed_44 ?_
    exact gw_iret CX rfl rfl ⟨_, _, _, rfl, rfl, H⟩ (Nat.zero_le _) (Nat.zero_le _) dCompany_daysSinceRehearsed_46
  · replace H := H.2 c
    refine gw_aload_n CX.1 1 rfl dCompany_daysSinceRehearsed_26 rfl ?_
    refine gw_aload_n CX.1 1 rfl dCompany_daysSinceRehearsed_27 rfl ?_
    refine gg_Company_31 CX.1 rfl dCompany_daysSinceRehearsed_28 ?_
    refine gw_iload_n CX.1 2 rfl dCompany_daysSinceRehearsed_31 rfl ?_
    refine gw_bipush (v := 10) CX.1 dCompany_daysSinceRehearsed_32 (by decide) ?_
    refine gw_imul CX.1 dCompany_daysSinceRehearsed_34 ?_
    refine gw_iload_n CX.1 3 rfl dCompany_daysSinceRehearsed_35 rfl ?_
    refine gw_iadd CX.1 dCompany_daysSinceRehearsed_36 ?_
    obtain ⟨hin, H⟩ := H
    refine ga_12 CX.1 hin dCompany_daysSinceRehearsed_37 ?_
    refine cl_Company_sinceDay CX (Nat.le_of_ble_eq_true rfl) wm_Company_66 dCompany_daysSinceRehearsed_38 H (fun x1_ F1 G1 H => ?_)
    refine gw_goto (tgt := 46) CX.1 dCompany_daysSinceRehearsed_41 (by decide) ?_
    exact gw_iret CX rfl rfl ⟨_, _, _, rfl, rfl, H⟩ (Nat.zero_le _) (Nat.zero_le _) dCompany_daysSinceRehearsed_46
theorem eCompany_daysSinceRehearsed {D : va_G} {d : Nat} {Q : Int32 → (Nat → Nat → Int32) → (Nat → Int64) → Prop} {F : Nat → Nat → Int32} {G : Nat → Int64} {a0 : Int32} {a1 : Int32} (H : AMi D d nCompany_isPerson [.ref 8, .int a0] F G (fun x1_ F1 G1 => ((x1_ = 0 → AWi D (d + 1) nCompany_daysSinceRehearsed 20 [(0, .ref 8), (1, .int a0), (2, .int a1)] [] F1 G1 Q) ∧ (¬ (x1_ = 0) → AMi D d nCompany_isPerson [.ref 8, .int a1] F1 G1 (fun x2_ F2 G2 => ((x2_ = 0 → AWi D (d + 1) nCompany_daysSinceRehearsed 20 [(0, .ref 8), (1, .int a0), (2, .int a1)] [] F2 G2 Q) ∧ (¬ (x2_ = 0) → AWi D (d + 1) nCompany_daysSinceRehearsed 21 [(0, .ref 8), (1, .int a0), (2, .int a1)] [.int 1] F2 G2 Q))))))) : AMi D (d + 1) nCompany_daysSinceRehearsed [.ref 8, .int a0, .int a1] F G Q := by
  refine AM_intro (by decide) (Nat.le_of_ble_eq_true rfl) ?_
  intro X CX
  refine gw_aload_n CX.1 0 rfl dCompany_daysSinceRehearsed_0 rfl ?_
  refine gw_iload_n CX.1 1 rfl dCompany_daysSinceRehearsed_1 rfl ?_
  refine cl_Company_isPerson CX (Nat.le_of_ble_eq_true rfl) wm_Company_48 dCompany_daysSinceRehearsed_2 H (fun x1_ F1 G1 H => ?_)
  refine gw_if_eq (tgt := 20) CX.1 dCompany_daysSinceRehearsed_5 (by decide) (fun c => ?_) (fun c => ?_)
  · replace H := H.1 c
    exact H X CX
  · replace H := H.2 c
    refine gw_aload_n CX.1 0 rfl dCompany_daysSinceRehearsed_8 rfl ?_
    refine gw_iload_n CX.1 2 rfl dCompany_daysSinceRehearsed_9 rfl ?_
    refine cl_Company_isPerson CX (Nat.le_of_ble_eq_true rfl) wm_Company_48 dCompany_daysSinceRehearsed_10 H (fun x2_ F2 G2 H => ?_)
    refine gw_if_eq (tgt := 20) CX.1 dCompany_daysSinceRehearsed_13 (by decide) (fun c => ?_) (fun c => ?_)
    · replace H := H.1 c
      exact H X CX
    · replace H := H.2 c
      refine gw_iconst (v := 1) CX.1 dCompany_daysSinceRehearsed_16 (by decide) ?_
      refine gw_goto (tgt := 21) CX.1 dCompany_daysSinceRehearsed_17 (by decide) ?_
      exact H X CX
theorem eCompany_setRehearsedToday {D : va_G} {d : Nat} {Q : (Nat → Nat → Int32) → (Nat → Int64) → Prop} {F : Nat → Nat → Int32} {G : Nat → Int64} {a0 : Int32} {a1 : Int32} (H : AMi D d nCompany_areTwo [.ref 8, .int a0, .int a1] F G (fun x1_ F1 G1 => ((x1_ = 0 → Q F1 G1) ∧ (¬ (x1_ = 0) → vp_in ((a0 * 10) + a1) 100 ∧ Q (up F1 12 (((a0 * 10) + a1).toNatClampNeg) (F1 102 0)) G1)))) : AMv D (d + 1) nCompany_setRehearsedToday [.ref 8, .int a0, .int a1] F G Q := by
  refine AM_intro (by decide) (Nat.le_of_ble_eq_true rfl) ?_
  intro X CX
  refine gw_aload_n CX.1 0 rfl dCompany_setRehearsedToday_0 rfl ?_
  refine gw_iload_n CX.1 1 rfl dCompany_setRehearsedToday_1 rfl ?_
  refine gw_iload_n CX.1 2 rfl dCompany_setRehearsedToday_2 rfl ?_
  refine cl_Company_areTwo CX (Nat.le_of_ble_eq_true rfl) wm_Company_82 dCompany_setRehearsedToday_3 H (fun x1_ F1 G1 H => ?_)
  refine gw_if_eq (tgt := 24) CX.1 dCompany_setRehearsedToday_6 (by decide) (fun c => ?_) (fun c => ?_)
  · replace H := H.1 c
    exact gw_vret CX rfl ⟨_, _, rfl, rfl, H⟩ (Nat.zero_le _) (Nat.zero_le _) dCompany_setRehearsedToday_24
  · replace H := H.2 c
    refine gw_aload_n CX.1 0 rfl dCompany_setRehearsedToday_9 rfl ?_
    refine gg_Company_31 CX.1 rfl dCompany_setRehearsedToday_10 ?_
    refine gw_iload_n CX.1 1 rfl dCompany_setRehearsedToday_13 rfl ?_
    refine gw_bipush (v := 10) CX.1 dCompany_setRehearsedToday_14 (by decide) ?_
    refine gw_imul CX.1 dCompany_setRehearsedToday_16 ?_
    refine gw_iload_n CX.1 2 rfl dCompany_setRehearsedToday_17 rfl ?_
    refine gw_iadd CX.1 dCompany_setRehearsedToday_18 ?_
    refine gw_aload_n CX.1 0 rfl dCompany_setRehearsedToday_19 rfl ?_
    refine gg_Company_15 CX.1 rfl dCompany_setRehearsedToday_20 ?_
    obtain ⟨hin, H⟩ := H
    refine gs_12 CX.1 hin dCompany_setRehearsedToday_23 ?_
    exact gw_vret CX rfl ⟨_, _, rfl, rfl, H⟩ (Nat.zero_le _) (Nat.zero_le _) dCompany_setRehearsedToday_24
theorem eCompany_areFoes {D : va_G} {d : Nat} {Q : Int32 → (Nat → Nat → Int32) → (Nat → Int64) → Prop} {F : Nat → Nat → Int32} {G : Nat → Int64} {a0 : Int32} {a1 : Int32} (H : AMi D d nCompany_isPerson [.ref 8, .int a1] F G (fun x1_ F1 G1 => ((x1_ = 0 → Q 0 F1 G1) ∧ (¬ (x1_ = 0) → AMi D d nCompany_foesOf [.ref 8, .int a0] F1 G1 (fun x2_ F2 G2 => ((¬ ((x2_ >>> (a1 &&& 31)) &&& 1) = 1 → Q 0 F2 G2) ∧ (((x2_ >>> (a1 &&& 31)) &&& 1) = 1 → Q 1 F2 G2))))))) : AMi D (d + 1) nCompany_areFoes [.ref 8, .int a0, .int a1] F G Q := by
  refine AM_intro (by decide) (Nat.le_of_ble_eq_true rfl) ?_
  intro X CX
  refine gw_aload_n CX.1 0 rfl dCompany_areFoes_0 rfl ?_
  refine gw_iload_n CX.1 2 rfl dCompany_areFoes_1 rfl ?_
  refine cl_Company_isPerson CX (Nat.le_of_ble_eq_true rfl) wm_Company_48 dCompany_areFoes_2 H (fun x1_ F1 G1 H => ?_)
  refine gw_if_eq (tgt := 25) CX.1 dCompany_areFoes_5 (by decide) (fun c => ?_) (fun c => ?_)
  · replace H := H.1 c
    refine gw_iconst (v := 0) CX.1 dCompany_areFoes_25 (by decide) ?_
    exact gw_iret CX rfl (by decide) ⟨_, _, _, rfl, rfl, H⟩ (Nat.zero_le _) (Nat.zero_le _) dCompany_areFoes_26
  · replace H := H.2 c
    refine gw_aload_n CX.1 0 rfl dCompany_areFoes_8 rfl ?_
    refine gw_iload_n CX.1 1 rfl dCompany_areFoes_9 rfl ?_
    refine cl_Company_foesOf CX (Nat.le_of_ble_eq_true rfl) wm_Company_88 dCompany_areFoes_10 H (fun x2_ F2 G2 H => ?_)
    refine gw_iload_n CX.1 2 rfl dCompany_areFoes_13 rfl ?_
    refine gw_ishr CX.1 dCompany_areFoes_14 ?_
    refine gw_iconst (v := 1) CX.1 dCompany_areFoes_15 (by decide) ?_
    refine gw_iand CX.1 dCompany_areFoes_16 ?_
    refine gw_iconst (v := 1) CX.1 dCompany_areFoes_17 (by decide) ?_
    refine gw_icmp_ne (tgt := 25) CX.1 dCompany_areFoes_18 (by decide) (fun c => ?_) (fun c => ?_)
    · replace H := H.1 c
      refine gw_iconst (v := 0) CX.1 dCompany_areFoes_25 (by decide) ?_
      exact gw_iret CX rfl (by decide) ⟨_, _, _, rfl, rfl, H⟩ (Nat.zero_le _) (Nat.zero_le _) dCompany_areFoes_26
    · replace H := H.2 c
      refine gw_iconst (v := 1) CX.1 dCompany_areFoes_21 (by decide) ?_
      refine gw_goto (tgt := 26) CX.1 dCompany_areFoes_22 (by decide) ?_
      exact gw_iret CX rfl (by decide) ⟨_, _, _, rfl, rfl, H⟩ (Nat.zero_le _) (Nat.zero_le _) dCompany_areFoes_26
theorem eCompany_foesOf {D : va_G} {d : Nat} {Q : Int32 → (Nat → Nat → Int32) → (Nat → Int64) → Prop} {F : Nat → Nat → Int32} {G : Nat → Int64} {a0 : Int32} (H : AMi D d nCompany_isPerson [.ref 8, .int a0] F G (fun x1_ F1 G1 => ((x1_ = 0 → Q 0 F1 G1) ∧ (¬ (x1_ = 0) → vp_in a0 10 ∧ Q (F1 13 a0.toNatClampNeg) F1 G1)))) : AMi D (d + 1) nCompany_foesOf [.ref 8, .int a0] F G Q := by
  refine AM_intro (by decide) (Nat.le_of_ble_eq_true rfl) ?_
  intro X CX
  refine gw_aload_n CX.1 0 rfl dCompany_foesOf_0 rfl ?_
  refine gw_iload_n CX.1 1 rfl dCompany_foesOf_1 rfl ?_
  refine cl_Company_isPerson CX (Nat.le_of_ble_eq_true rfl) wm_Company_48 dCompany_foesOf_2 H (fun x1_ F1 G1 H => ?_)
  refine gw_if_eq (tgt := 17) CX.1 dCompany_foesOf_5 (by decide) (fun c => ?_) (fun c => ?_)
  · replace H := H.1 c
    refine gw_iconst (v := 0) CX.1 dCompany_foesOf_17 (by decide) ?_
    exact gw_iret CX rfl rfl ⟨_, _, _, rfl, rfl, H⟩ (Nat.zero_le _) (Nat.zero_le _) dCompany_foesOf_18
  · replace H := H.2 c
    refine gw_aload_n CX.1 0 rfl dCompany_foesOf_8 rfl ?_
    refine gg_Company_34 CX.1 rfl dCompany_foesOf_9 ?_
    refine gw_iload_n CX.1 1 rfl dCompany_foesOf_12 rfl ?_
    obtain ⟨hin, H⟩ := H
    refine ga_13 CX.1 hin dCompany_foesOf_13 ?_
    refine gw_goto (tgt := 18) CX.1 dCompany_foesOf_14 (by decide) ?_
    exact gw_iret CX rfl rfl ⟨_, _, _, rfl, rfl, H⟩ (Nat.zero_le _) (Nat.zero_le _) dCompany_foesOf_18
theorem bCompany_setFoes_43 {D : va_G} {d : Nat} {Q : (Nat → Nat → Int32) → (Nat → Int64) → Prop} {F : Nat → Nat → Int32} {G : Nat → Int64} {x1 : Int32} {x2 : Int32} {x3 : Int32} {s0 : Int32} {s1 : Int32} (H : vp_in s1 10 ∧ ((x3 = 0 → vp_in x2 10 ∧ vp_in x2 10 ∧ Q (up (up F 13 (s1.toNatClampNeg) s0) 13 (x2.toNatClampNeg) (((up F 13 (s1.toNatClampNeg) s0) 13 x2.toNatClampNeg) &&& ((1 <<< (x1 &&& 31)) ^^^ (-1)))) G) ∧ (¬ (x3 = 0) → vp_in x2 10 ∧ vp_in x2 10 ∧ Q (up (up F 13 (s1.toNatClampNeg) s0) 13 (x2.toNatClampNeg) (((up F 13 (s1.toNatClampNeg) s0) 13 x2.toNatClampNeg) ||| (1 <<< (x1 &&& 31)))) G))) : AWv D (d + 1) nCompany_setFoes 43 [(0, .ref 8), (1, .int x1), (2, .int x2), (3, .int x3)] [.int s0, .int s1, .ref 14] F G Q := by
  intro X CX
  obtain ⟨hin, H⟩ := H
  refine gs_13 CX.1 hin dCompany_setFoes_43 ?_
  refine gw_aload_n CX.1 0 rfl dCompany_setFoes_44 rfl ?_
  refine gg_Company_34 CX.1 rfl dCompany_setFoes_45 ?_
  refine gw_iload_n CX.1 2 rfl dCompany_setFoes_48 rfl ?_
  refine gw_iload_n CX.1 3 rfl dCompany_setFoes_49 rfl ?_
  refine gw_if_eq (tgt := 66) CX.1 dCompany_setFoes_50 (by decide) (fun c => ?_) (fun c => ?_)
  · replace H := H.1 c
    refine gw_aload_n CX.1 0 rfl dCompany_setFoes_66 rfl ?_
    refine gg_Company_34 CX.1 rfl dCompany_setFoes_67 ?_
    refine gw_iload_n CX.1 2 rfl dCompany_setFoes_70 rfl ?_
    obtain ⟨hin, H⟩ := H
    refine ga_13 CX.1 hin dCompany_setFoes_71 ?_
    refine gw_iconst (v := 1) CX.1 dCompany_setFoes_72 (by decide) ?_
    refine gw_iload_n CX.1 1 rfl dCompany_setFoes_73 rfl ?_
    refine gw_ishl CX.1 dCompany_setFoes_74 ?_
    refine gw_iconst (v := (-1)) CX.1 dCompany_setFoes_75 (by decide) ?_
    refine gw_ixor CX.1 dCompany_setFoes_76 ?_
    refine gw_iand CX.1 dCompany_setFoes_77 ?_
    obtain ⟨hin, H⟩ := H
    refine gs_13 CX.1 hin dCompany_setFoes_78 ?_
    exact gw_vret CX rfl ⟨_, _, rfl, rfl, H⟩ (Nat.zero_le _) (Nat.zero_le _) dCompany_setFoes_79
  · replace H := H.2 c
    refine gw_aload_n CX.1 0 rfl dCompany_setFoes_53 rfl ?_
    refine gg_Company_34 CX.1 rfl dCompany_setFoes_54 ?_
    refine gw_iload_n CX.1 2 rfl dCompany_setFoes_57 rfl ?_
    obtain ⟨hin, H⟩ := H
    refine ga_13 CX.1 hin dCompany_setFoes_58 ?_
    refine gw_iconst (v := 1) CX.1 dCompany_setFoes_59 (by decide) ?_
    refine gw_iload_n CX.1 1 rfl dCompany_setFoes_60 rfl ?_
    refine gw_ishl CX.1 dCompany_setFoes_61 ?_
    refine gw_ior CX.1 dCompany_setFoes_62 ?_
    refine gw_goto (tgt := 78) CX.1 dCompany_setFoes_63 (by decide) ?_
    obtain ⟨hin, H⟩ := H
    refine gs_13 CX.1 hin dCompany_setFoes_78 ?_
    exact gw_vret CX rfl ⟨_, _, rfl, rfl, H⟩ (Nat.zero_le _) (Nat.zero_le _) dCompany_setFoes_79
theorem eCompany_setFoes {D : va_G} {d : Nat} {Q : (Nat → Nat → Int32) → (Nat → Int64) → Prop} {F : Nat → Nat → Int32} {G : Nat → Int64} {a0 : Int32} {a1 : Int32} {a2 : Int32} (H : AMi D d nCompany_areTwo [.ref 8, .int a0, .int a1] F G (fun x1_ F1 G1 => ((x1_ = 0 → Q F1 G1) ∧ (¬ (x1_ = 0) → ((a2 = 0 → vp_in a0 10 ∧ AWv D (d + 1) nCompany_setFoes 43 [(0, .ref 8), (1, .int a0), (2, .int a1), (3, .int a2)] [.int ((F1 13 a0.toNatClampNeg) &&& ((1 <<< (a1 &&& 31)) ^^^ (-1))), .int a0, .ref 14] F1 G1 Q) ∧ (¬ (a2 = 0) → vp_in a0 10 ∧ AWv D (d + 1) nCompany_setFoes 43 [(0, .ref 8), (1, .int a0), (2, .int a1), (3, .int a2)] [.int ((F1 13 a0.toNatClampNeg) ||| (1 <<< (a1 &&& 31))), .int a0, .ref 14] F1 G1 Q)))))) : AMv D (d + 1) nCompany_setFoes [.ref 8, .int a0, .int a1, .int a2] F G Q := by
  refine AM_intro (by decide) (Nat.le_of_ble_eq_true rfl) ?_
  intro X CX
  refine gw_aload_n CX.1 0 rfl dCompany_setFoes_0 rfl ?_
  refine gw_iload_n CX.1 1 rfl dCompany_setFoes_1 rfl ?_
  refine gw_iload_n CX.1 2 rfl dCompany_setFoes_2 rfl ?_
  refine cl_Company_areTwo CX (Nat.le_of_ble_eq_true rfl) wm_Company_82 dCompany_setFoes_3 H (fun x1_ F1 G1 H => ?_)
  refine gw_if_eq (tgt := 79) CX.1 dCompany_setFoes_6 (by decide) (fun c => ?_) (fun c => ?_)
  · replace H := H.1 c
    exact gw_vret CX rfl ⟨_, _, rfl, rfl, H⟩ (Nat.zero_le _) (Nat.zero_le _) dCompany_setFoes_79
  · replace H := H.2 c
    refine gw_aload_n CX.1 0 rfl dCompany_setFoes_9 rfl ?_
    refine gg_Company_34 CX.1 rfl dCompany_setFoes_10 ?_
    refine gw_iload_n CX.1 1 rfl dCompany_setFoes_13 rfl ?_
    refine gw_iload_n CX.1 3 rfl dCompany_setFoes_14 rfl ?_
    refine gw_if_eq (tgt := 31) CX.1 dCompany_setFoes_15 (by decide) (fun c => ?_) (fun c => ?_)
    · replace H := H.1 c
      refine gw_aload_n CX.1 0 rfl dCompany_setFoes_31 rfl ?_
      refine gg_Company_34 CX.1 rfl dCompany_setFoes_32 ?_
      refine gw_iload_n CX.1 1 rfl dCompany_setFoes_35 rfl ?_
      obtain ⟨hin, H⟩ := H
      refine ga_13 CX.1 hin dCompany_setFoes_36 ?_
      refine gw_iconst (v := 1) CX.1 dCompany_setFoes_37 (by decide) ?_
      refine gw_iload_n CX.1 2 rfl dCompany_setFoes_38 rfl ?_
      refine gw_ishl CX.1 dCompany_setFoes_39 ?_
      refine gw_iconst (v := (-1)) CX.1 dCompany_setFoes_40 (by decide) ?_
      refine gw_ixor CX.1 dCompany_setFoes_41 ?_
      refine gw_iand CX.1 dCompany_setFoes_42 ?_
      exact H X CX
    · replace H := H.2 c
      refine gw_aload_n CX.1 0 rfl dCompany_setFoes_18 rfl ?_
      refine gg_Company_34 CX.1 rfl dCompany_setFoes_19 ?_
      refine gw_iload_n CX.1 1 rfl dCompany_setFoes_22 rfl ?_
      obtain ⟨hin, H⟩ := H
      refine ga_13 CX.1 hin dCompany_setFoes_23 ?_
      refine gw_iconst (v := 1) CX.1 dCompany_setFoes_24 (by decide) ?_
      refine gw_iload_n CX.1 2 rfl dCompany_setFoes_25 rfl ?_
      refine gw_ishl CX.1 dCompany_setFoes_26 ?_
      refine gw_ior CX.1 dCompany_setFoes_27 ?_
      refine gw_goto (tgt := 43) CX.1 dCompany_setFoes_28 (by decide) ?_
      exact H X CX
theorem eCompany_today {D : va_G} {d : Nat} {Q : Int32 → (Nat → Nat → Int32) → (Nat → Int64) → Prop} {F : Nat → Nat → Int32} {G : Nat → Int64} (H : Q (F 102 0) F G) : AMi D (d + 1) nCompany_today [.ref 8] F G Q := by
  refine AM_intro (by decide) (Nat.le_of_ble_eq_true rfl) ?_
  intro X CX
  refine gw_aload_n CX.1 0 rfl dCompany_today_0 rfl ?_
  refine gg_Company_15 CX.1 rfl dCompany_today_1 ?_
  exact gw_iret CX rfl rfl ⟨_, _, _, rfl, rfl, H⟩ (Nat.zero_le _) (Nat.zero_le _) dCompany_today_4
theorem eCompany_passDays {D : va_G} {d : Nat} {Q : (Nat → Nat → Int32) → (Nat → Int64) → Prop} {F : Nat → Nat → Int32} {G : Nat → Int64} {a0 : Int32} (H : Q (upA (upS F 102 ((F 102 0) + a0)) 14 (gFl ((upS F 102 ((F 102 0) + a0)) 14) 30 10)) G) : AMv D (d + 1) nCompany_passDays [.ref 8, .int a0] F G Q := by
  refine AM_intro (by decide) (Nat.le_of_ble_eq_true rfl) ?_
  intro X CX
  refine gw_aload_n CX.1 0 rfl dCompany_passDays_0 rfl ?_
  refine gw_dup CX.1 dCompany_passDays_1 rfl ?_
  refine gg_Company_15 CX.1 rfl dCompany_passDays_2 ?_
  refine gw_iload_n CX.1 1 rfl dCompany_passDays_5 rfl ?_
  refine gw_iadd CX.1 dCompany_passDays_6 ?_
  refine gp_Company_15 CX.1 rfl dCompany_passDays_7 ?_
  refine gw_aload_n CX.1 0 rfl dCompany_passDays_10 rfl ?_
  refine gg_Company_37 CX.1 rfl dCompany_passDays_11 ?_
  refine gw_bipush (v := 30) CX.1 dCompany_passDays_14 (by decide) ?_
  refine gcf_I (F' := (upA (upS F 102 ((F 102 0) + a0)) 14 (gFl ((upS F 102 ((F 102 0) + a0)) 14) 30 10))) CX (Nat.le_of_ble_eq_true rfl) wm_Company_41 dCompany_passDays_16 (by decide) mk_14 (ms_14 _) ?_
  exact gw_vret CX rfl ⟨_, _, rfl, rfl, H⟩ (Nat.zero_le _) (Nat.zero_le _) dCompany_passDays_19
theorem eCompany_outFrom {D : va_G} {d : Nat} {Q : Int32 → (Nat → Nat → Int32) → (Nat → Int64) → Prop} {F : Nat → Nat → Int32} {G : Nat → Int64} {a0 : Int32} (H : AMi D d nCompany_isPerson [.ref 8, .int a0] F G (fun x1_ F1 G1 => ((x1_ = 0 → Q 30 F1 G1) ∧ (¬ (x1_ = 0) → vp_in a0 10 ∧ Q (F1 14 a0.toNatClampNeg) F1 G1)))) : AMi D (d + 1) nCompany_outFrom [.ref 8, .int a0] F G Q := by
  refine AM_intro (by decide) (Nat.le_of_ble_eq_true rfl) ?_
  intro X CX
  refine gw_aload_n CX.1 0 rfl dCompany_outFrom_0 rfl ?_
  refine gw_iload_n CX.1 1 rfl dCompany_outFrom_1 rfl ?_
  refine cl_Company_isPerson CX (Nat.le_of_ble_eq_true rfl) wm_Company_48 dCompany_outFrom_2 H (fun x1_ F1 G1 H => ?_)
  refine gw_if_eq (tgt := 17) CX.1 dCompany_outFrom_5 (by decide) (fun c => ?_) (fun c => ?_)
  · replace H := H.1 c
    refine gw_bipush (v := 30) CX.1 dCompany_outFrom_17 (by decide) ?_
    exact gw_iret CX rfl rfl ⟨_, _, _, rfl, rfl, H⟩ (Nat.zero_le _) (Nat.zero_le _) dCompany_outFrom_19
  · replace H := H.2 c
    refine gw_aload_n CX.1 0 rfl dCompany_outFrom_8 rfl ?_
    refine gg_Company_37 CX.1 rfl dCompany_outFrom_9 ?_
    refine gw_iload_n CX.1 1 rfl dCompany_outFrom_12 rfl ?_
    obtain ⟨hin, H⟩ := H
    refine ga_14 CX.1 hin dCompany_outFrom_13 ?_
    refine gw_goto (tgt := 19) CX.1 dCompany_outFrom_14 (by decide) ?_
    exact gw_iret CX rfl rfl ⟨_, _, _, rfl, rfl, H⟩ (Nat.zero_le _) (Nat.zero_le _) dCompany_outFrom_19
theorem eCompany_setOutFrom {D : va_G} {d : Nat} {Q : (Nat → Nat → Int32) → (Nat → Int64) → Prop} {F : Nat → Nat → Int32} {G : Nat → Int64} {a0 : Int32} {a1 : Int32} (H : AMi D d nCompany_isPerson [.ref 8, .int a0] F G (fun x1_ F1 G1 => ((x1_ = 0 → Q F1 G1) ∧ (¬ (x1_ = 0) → vp_in a0 10 ∧ Q (up F1 14 (a0.toNatClampNeg) a1) G1)))) : AMv D (d + 1) nCompany_setOutFrom [.ref 8, .int a0, .int a1] F G Q := by
  refine AM_intro (by decide) (Nat.le_of_ble_eq_true rfl) ?_
  intro X CX
  refine gw_aload_n CX.1 0 rfl dCompany_setOutFrom_0 rfl ?_
  refine gw_iload_n CX.1 1 rfl dCompany_setOutFrom_1 rfl ?_
  refine cl_Company_isPerson CX (Nat.le_of_ble_eq_true rfl) wm_Company_48 dCompany_setOutFrom_2 H (fun x1_ F1 G1 H => ?_)
  refine gw_if_eq (tgt := 15) CX.1 dCompany_setOutFrom_5 (by decide) (fun c => ?_) (fun c => ?_)
  · replace H := H.1 c
    exact gw_vret CX rfl ⟨_, _, rfl, rfl, H⟩ (Nat.zero_le _) (Nat.zero_le _) dCompany_setOutFrom_15
  · replace H := H.2 c
    refine gw_aload_n CX.1 0 rfl dCompany_setOutFrom_8 rfl ?_
    refine gg_Company_37 CX.1 rfl dCompany_setOutFrom_9 ?_
    refine gw_iload_n CX.1 1 rfl dCompany_setOutFrom_12 rfl ?_
    refine gw_iload_n CX.1 2 rfl dCompany_setOutFrom_13 rfl ?_
    obtain ⟨hin, H⟩ := H
    refine gs_14 CX.1 hin dCompany_setOutFrom_14 ?_
    exact gw_vret CX rfl ⟨_, _, rfl, rfl, H⟩ (Nat.zero_le _) (Nat.zero_le _) dCompany_setOutFrom_15
theorem eCompany_people {D : va_G} {d : Nat} {Q : Int32 → (Nat → Nat → Int32) → (Nat → Int64) → Prop} {F : Nat → Nat → Int32} {G : Nat → Int64} (H : Q (F 101 0) F G) : AMi D (d + 1) nCompany_people [.ref 8] F G Q := by
  refine AM_intro (by decide) (Nat.le_of_ble_eq_true rfl) ?_
  intro X CX
  refine gw_aload_n CX.1 0 rfl dCompany_people_0 rfl ?_
  refine gg_Company_9 CX.1 rfl dCompany_people_1 ?_
  exact gw_iret CX rfl rfl ⟨_, _, _, rfl, rfl, H⟩ (Nat.zero_le _) (Nat.zero_le _) dCompany_people_4
theorem bCompany_canPlay_18 {D : va_G} {d : Nat} {Q : Int32 → (Nat → Nat → Int32) → (Nat → Int64) → Prop} {F : Nat → Nat → Int32} {G : Nat → Int64} {x1 : Int32} {x2 : Int32} {x3 : Int32} (H : AMi D d nCompany_fitsDress [.ref 8, .int x1, .int x3] F G (fun x1_ F1 G1 => ((x1_ = 0 → Q 0 F1 G1) ∧ (¬ (x1_ = 0) → Q 1 F1 G1)))) : AWi D (d + 1) nCompany_canPlay 18 [(0, .ref 8), (1, .int x1), (2, .int x2), (3, .int x3)] [] F G Q := by
  intro X CX
  refine gw_aload_n CX.1 0 rfl dCompany_canPlay_18 rfl ?_
  refine gw_iload_n CX.1 1 rfl dCompany_canPlay_19 rfl ?_
  refine gw_iload_n CX.1 3 rfl dCompany_canPlay_20 rfl ?_
  refine cl_Company_fitsDress CX (Nat.le_of_ble_eq_true rfl) wm_Company_79 dCompany_canPlay_21 H (fun x1_ F1 G1 H => ?_)
  refine gw_if_eq (tgt := 31) CX.1 dCompany_canPlay_24 (by decide) (fun c => ?_) (fun c => ?_)
  · replace H := H.1 c
    refine gw_iconst (v := 0) CX.1 dCompany_canPlay_31 (by decide) ?_
    exact gw_iret CX rfl (by decide) ⟨_, _, _, rfl, rfl, H⟩ (Nat.zero_le _) (Nat.zero_le _) dCompany_canPlay_32
  · replace H := H.2 c
    refine gw_iconst (v := 1) CX.1 dCompany_canPlay_27 (by decide) ?_
    refine gw_goto (tgt := 32) CX.1 dCompany_canPlay_28 (by decide) ?_
    exact gw_iret CX rfl (by decide) ⟨_, _, _, rfl, rfl, H⟩ (Nat.zero_le _) (Nat.zero_le _) dCompany_canPlay_32
theorem eCompany_canPlay {D : va_G} {d : Nat} {Q : Int32 → (Nat → Nat → Int32) → (Nat → Int64) → Prop} {F : Nat → Nat → Int32} {G : Nat → Int64} {a0 : Int32} {a1 : Int32} {a2 : Int32} (H : AMi D d nCompany_owns [.ref 8, .int a0, .int a1] F G (fun x1_ F1 G1 => ((¬ x1_ = 0 → AWi D (d + 1) nCompany_canPlay 18 [(0, .ref 8), (1, .int a0), (2, .int a1), (3, .int a2)] [] F1 G1 Q) ∧ (x1_ = 0 → AMi D d nCompany_knows [.ref 8, .int a0, .int a1] F1 G1 (fun x2_ F2 G2 => ((x2_ = 0 → Q 0 F2 G2) ∧ (¬ (x2_ = 0) → AWi D (d + 1) nCompany_canPlay 18 [(0, .ref 8), (1, .int a0), (2, .int a1), (3, .int a2)] [] F2 G2 Q))))))) : AMi D (d + 1) nCompany_canPlay [.ref 8, .int a0, .int a1, .int a2] F G Q := by
  refine AM_intro (by decide) (Nat.le_of_ble_eq_true rfl) ?_
  intro X CX
  refine gw_aload_n CX.1 0 rfl dCompany_canPlay_0 rfl ?_
  refine gw_iload_n CX.1 1 rfl dCompany_canPlay_1 rfl ?_
  refine gw_iload_n CX.1 2 rfl dCompany_canPlay_2 rfl ?_
  refine cl_Company_owns CX (Nat.le_of_ble_eq_true rfl) wm_Company_58 dCompany_canPlay_3 H (fun x1_ F1 G1 H => ?_)
  refine gw_if_ne (tgt := 18) CX.1 dCompany_canPlay_6 (by decide) (fun c => ?_) (fun c => ?_)
  · replace H := H.1 c
    exact H X CX
  · replace H := H.2 c
    refine gw_aload_n CX.1 0 rfl dCompany_canPlay_9 rfl ?_
    refine gw_iload_n CX.1 1 rfl dCompany_canPlay_10 rfl ?_
    refine gw_iload_n CX.1 2 rfl dCompany_canPlay_11 rfl ?_
    refine cl_Company_knows CX (Nat.le_of_ble_eq_true rfl) wm_Company_76 dCompany_canPlay_12 H (fun x2_ F2 G2 H => ?_)
    refine gw_if_eq (tgt := 31) CX.1 dCompany_canPlay_15 (by decide) (fun c => ?_) (fun c => ?_)
    · replace H := H.1 c
      refine gw_iconst (v := 0) CX.1 dCompany_canPlay_31 (by decide) ?_
      exact gw_iret CX rfl (by decide) ⟨_, _, _, rfl, rfl, H⟩ (Nat.zero_le _) (Nat.zero_le _) dCompany_canPlay_32
    · replace H := H.2 c
      exact H X CX
theorem eCompany_fitsDress {D : va_G} {d : Nat} {Q : Int32 → (Nat → Nat → Int32) → (Nat → Int64) → Prop} {F : Nat → Nat → Int32} {G : Nat → Int64} {a0 : Int32} {a1 : Int32} (H : AMi D d nCompany_isPerson [.ref 8, .int a0] F G (fun x1_ F1 G1 => ((x1_ = 0 → Q 0 F1 G1) ∧ (¬ (x1_ = 0) → vp_in a0 10 ∧ ((1 < (if 0 ≤ ((F1 9 a0.toNatClampNeg) - a1) then ((F1 9 a0.toNatClampNeg) - a1) else 0 - ((F1 9 a0.toNatClampNeg) - a1)) → Q 0 F1 G1) ∧ (¬ (1 < (if 0 ≤ ((F1 9 a0.toNatClampNeg) - a1) then ((F1 9 a0.toNatClampNeg) - a1) else 0 - ((F1 9 a0.toNatClampNeg) - a1))) → Q 1 F1 G1)))))) : AMi D (d + 1) nCompany_fitsDress [.ref 8, .int a0, .int a1] F G Q := by
  refine AM_intro (by decide) (Nat.le_of_ble_eq_true rfl) ?_
  intro X CX
  refine gw_aload_n CX.1 0 rfl dCompany_fitsDress_0 rfl ?_
  refine gw_iload_n CX.1 1 rfl dCompany_fitsDress_1 rfl ?_
  refine cl_Company_isPerson CX (Nat.le_of_ble_eq_true rfl) wm_Company_48 dCompany_fitsDress_2 H (fun x1_ F1 G1 H => ?_)
  refine gw_if_eq (tgt := 27) CX.1 dCompany_fitsDress_5 (by decide) (fun c => ?_) (fun c => ?_)
  · replace H := H.1 c
    refine gw_iconst (v := 0) CX.1 dCompany_fitsDress_27 (by decide) ?_
    exact gw_iret CX rfl (by decide) ⟨_, _, _, rfl, rfl, H⟩ (Nat.zero_le _) (Nat.zero_le _) dCompany_fitsDress_28
  · replace H := H.2 c
    refine gw_aload_n CX.1 0 rfl dCompany_fitsDress_8 rfl ?_
    refine gg_Company_22 CX.1 rfl dCompany_fitsDress_9 ?_
    refine gw_iload_n CX.1 1 rfl dCompany_fitsDress_12 rfl ?_
    obtain ⟨hin, H⟩ := H
    refine ga_9 CX.1 hin dCompany_fitsDress_13 ?_
    refine gw_iload_n CX.1 2 rfl dCompany_fitsDress_14 rfl ?_
    refine gw_isub CX.1 dCompany_fitsDress_15 ?_
    refine gw_mabs CX (Nat.le_of_ble_eq_true rfl) wm_Company_52 dCompany_fitsDress_16 ?_
    refine gw_iconst (v := 1) CX.1 dCompany_fitsDress_19 (by decide) ?_
    refine gw_icmp_gt (tgt := 27) CX.1 dCompany_fitsDress_20 (by decide) (fun c => ?_) (fun c => ?_)
    · replace H := H.1 c
      refine gw_iconst (v := 0) CX.1 dCompany_fitsDress_27 (by decide) ?_
      exact gw_iret CX rfl (by decide) ⟨_, _, _, rfl, rfl, H⟩ (Nat.zero_le _) (Nat.zero_le _) dCompany_fitsDress_28
    · replace H := H.2 c
      refine gw_iconst (v := 1) CX.1 dCompany_fitsDress_23 (by decide) ?_
      refine gw_goto (tgt := 28) CX.1 dCompany_fitsDress_24 (by decide) ?_
      exact gw_iret CX rfl (by decide) ⟨_, _, _, rfl, rfl, H⟩ (Nat.zero_le _) (Nat.zero_le _) dCompany_fitsDress_28
theorem bCompany_doLift_19 {D : va_G} {d : Nat} {Q : Int32 → (Nat → Nat → Int32) → (Nat → Int64) → Prop} {F : Nat → Nat → Int32} {G : Nat → Int64} {x1 : Int32} {x2 : Int32} {x3 : Int32} {x4 : Int32} (H : AMi D d nCompany_isFreshPair [.ref 8, .int x1, .int x3] F G (fun x1_ F1 G1 => ((x1_ = 0 → Q 0 F1 G1) ∧ (¬ (x1_ = 0) → Q 1 F1 G1)))) : AWi D (d + 1) nCompany_doLift 19 [(0, .ref 8), (1, .int x1), (2, .int x2), (3, .int x3), (4, .int x4)] [] F G Q := by
  intro X CX
  refine gw_aload_n CX.1 0 rfl dCompany_doLift_19 rfl ?_
  refine gw_iload_n CX.1 1 rfl dCompany_doLift_20 rfl ?_
  refine gw_iload_n CX.1 3 rfl dCompany_doLift_21 rfl ?_
  refine cl_Company_isFreshPair CX (Nat.le_of_ble_eq_true rfl) wm_Company_85 dCompany_doLift_22 H (fun x1_ F1 G1 H => ?_)
  refine gw_if_eq (tgt := 32) CX.1 dCompany_doLift_25 (by decide) (fun c => ?_) (fun c => ?_)
  · replace H := H.1 c
    refine gw_iconst (v := 0) CX.1 dCompany_doLift_32 (by decide) ?_
    exact gw_iret CX rfl (by decide) ⟨_, _, _, rfl, rfl, H⟩ (Nat.zero_le _) (Nat.zero_le _) dCompany_doLift_33
  · replace H := H.2 c
    refine gw_iconst (v := 1) CX.1 dCompany_doLift_28 (by decide) ?_
    refine gw_goto (tgt := 33) CX.1 dCompany_doLift_29 (by decide) ?_
    exact gw_iret CX rfl (by decide) ⟨_, _, _, rfl, rfl, H⟩ (Nat.zero_le _) (Nat.zero_le _) dCompany_doLift_33
theorem eCompany_doLift {D : va_G} {d : Nat} {Q : Int32 → (Nat → Nat → Int32) → (Nat → Int64) → Prop} {F : Nat → Nat → Int32} {G : Nat → Int64} {a0 : Int32} {a1 : Int32} {a2 : Int32} {a3 : Int32} (H : AMi D d nCompany_owns [.ref 8, .int a0, .int a1] F G (fun x1_ F1 G1 => ((x1_ = 0 → AWi D (d + 1) nCompany_doLift 19 [(0, .ref 8), (1, .int a0), (2, .int a1), (3, .int a2), (4, .int a3)] [] F1 G1 Q) ∧ (¬ (x1_ = 0) → AMi D d nCompany_owns [.ref 8, .int a2, .int a3] F1 G1 (fun x2_ F2 G2 => ((¬ x2_ = 0 → Q 1 F2 G2) ∧ (x2_ = 0 → AWi D (d + 1) nCompany_doLift 19 [(0, .ref 8), (1, .int a0), (2, .int a1), (3, .int a2), (4, .int a3)] [] F2 G2 Q))))))) : AMi D (d + 1) nCompany_doLift [.ref 8, .int a0, .int a1, .int a2, .int a3] F G Q := by
  refine AM_intro (by decide) (Nat.le_of_ble_eq_true rfl) ?_
  intro X CX
  refine gw_aload_n CX.1 0 rfl dCompany_doLift_0 rfl ?_
  refine gw_iload_n CX.1 1 rfl dCompany_doLift_1 rfl ?_
  refine gw_iload_n CX.1 2 rfl dCompany_doLift_2 rfl ?_
  refine cl_Company_owns CX (Nat.le_of_ble_eq_true rfl) wm_Company_58 dCompany_doLift_3 H (fun x1_ F1 G1 H => ?_)
  refine gw_if_eq (tgt := 19) CX.1 dCompany_doLift_6 (by decide) (fun c => ?_) (fun c => ?_)
  · replace H := H.1 c
    exact H X CX
  · replace H := H.2 c
    refine gw_aload_n CX.1 0 rfl dCompany_doLift_9 rfl ?_
    refine gw_iload_n CX.1 3 rfl dCompany_doLift_10 rfl ?_
    refine gw_iload CX.1 4 rfl dCompany_doLift_11 ?_
    refine cl_Company_owns CX (Nat.le_of_ble_eq_true rfl) wm_Company_58 dCompany_doLift_13 H (fun x2_ F2 G2 H => ?_)
    refine gw_if_ne (tgt := 28) CX.1 dCompany_doLift_16 (by decide) (fun c => ?_) (fun c => ?_)
    · replace H := H.1 c
      refine gw_iconst (v := 1) CX.1 dCompany_doLift_28 (by decide) ?_
      refine gw_goto (tgt := 33) CX.1 dCompany_doLift_29 (by decide) ?_
      exact gw_iret CX rfl (by decide) ⟨_, _, _, rfl, rfl, H⟩ (Nat.zero_le _) (Nat.zero_le _) dCompany_doLift_33
    · replace H := H.2 c
      exact H X CX
theorem eCompany_isFreshPair {D : va_G} {d : Nat} {Q : Int32 → (Nat → Nat → Int32) → (Nat → Int64) → Prop} {F : Nat → Nat → Int32} {G : Nat → Int64} {a0 : Int32} {a1 : Int32} (H : AMi D d nCompany_isPerson [.ref 8, .int a0] F G (fun x1_ F1 G1 => ((x1_ = 0 → Q 0 F1 G1) ∧ (¬ (x1_ = 0) → AMi D d nCompany_isPerson [.ref 8, .int a1] F1 G1 (fun x2_ F2 G2 => ((¬ x2_ = 0 → vp_in ((a0 * 10) + a1) 100 ∧ (((F2 12 ((a0 * 10) + a1).toNatClampNeg) = (-1) → Q 0 F2 G2) ∧ (¬ ((F2 12 ((a0 * 10) + a1).toNatClampNeg) = (-1)) → ((30 ≤ ((F2 102 0) - (F2 12 ((a0 * 10) + a1).toNatClampNeg)) → Q 0 F2 G2) ∧ (¬ (30 ≤ ((F2 102 0) - (F2 12 ((a0 * 10) + a1).toNatClampNeg))) → Q 1 F2 G2))))) ∧ (x2_ = 0 → Q 0 F2 G2))))))) : AMi D (d + 1) nCompany_isFreshPair [.ref 8, .int a0, .int a1] F G Q := by
  refine AM_intro (by decide) (Nat.le_of_ble_eq_true rfl) ?_
  intro X CX
  refine gw_aload_n CX.1 0 rfl dCompany_isFreshPair_0 rfl ?_
  refine gw_iload_n CX.1 1 rfl dCompany_isFreshPair_1 rfl ?_
  refine cl_Company_isPerson CX (Nat.le_of_ble_eq_true rfl) wm_Company_48 dCompany_isFreshPair_2 H (fun x1_ F1 G1 H => ?_)
  refine gw_if_eq (tgt := 16) CX.1 dCompany_isFreshPair_5 (by decide) (fun c => ?_) (fun c => ?_)
  · replace H := H.1 c
    refine gw_iconst (v := 0) CX.1 dCompany_isFreshPair_16 (by decide) ?_
    exact gw_iret CX rfl (by decide) ⟨_, _, _, rfl, rfl, H⟩ (Nat.zero_le _) (Nat.zero_le _) dCompany_isFreshPair_17
  · replace H := H.2 c
    refine gw_aload_n CX.1 0 rfl dCompany_isFreshPair_8 rfl ?_
    refine gw_iload_n CX.1 2 rfl dCompany_isFreshPair_9 rfl ?_
    refine cl_Company_isPerson CX (Nat.le_of_ble_eq_true rfl) wm_Company_48 dCompany_isFreshPair_10 H (fun x2_ F2 G2 H => ?_)
    refine gw_if_ne (tgt := 18) CX.1 dCompany_isFreshPair_13 (by decide) (fun c => ?_) (fun c => ?_)
    · replace H := H.1 c
      refine gw_aload_n CX.1 0 rfl dCompany_isFreshPair_18 rfl ?_
      refine gg_Company_31 CX.1 rfl dCompany_isFreshPair_19 ?_
      refine gw_iload_n CX.1 1 rfl dCompany_isFreshPair_22 rfl ?_
      refine gw_bipush (v := 10) CX.1 dCompany_isFreshPair_23 (by decide) ?_
      refine gw_imul CX.1 dCompany_isFreshPair_25 ?_
      refine gw_iload_n CX.1 2 rfl dCompany_isFreshPair_26 rfl ?_
      refine gw_iadd CX.1 dCompany_isFreshPair_27 ?_
      obtain ⟨hin, H⟩ := H
      refine ga_12 CX.1 hin dCompany_isFreshPair_28 ?_
      refine gw_istore_n CX.1 dCompany_isFreshPair_29 rfl (by decide) rfl ?_
      refine gw_iload_n CX.1 0 rfl dCompany_isFreshPair_30 rfl ?_
      refine gw_iconst (v := (-1)) CX.1 dCompany_isFreshPair_31 (by decide) ?_
      refine gw_icmp_eq (tgt := 50) CX.1 dCompany_isFreshPair_32 (by decide) (fun c => ?_) (fun c => ?_)
      · replace H := H.1 c
        refine gw_iconst (v := 0) CX.1 dCompany_isFreshPair_50 (by decide) ?_
        exact gw_iret CX rfl (by decide) ⟨_, _, _, rfl, rfl, H⟩ (Nat.zero_le _) (Nat.zero_le _) dCompany_isFreshPair_51
      · replace H := H.2 c
        refine gw_aload_n CX.1 1 rfl dCompany_isFreshPair_35 rfl ?_
        refine gg_Company_15 CX.1 rfl dCompany_isFreshPair_36 ?_
        refine gw_iload_n CX.1 0 rfl dCompany_isFreshPair_39 rfl ?_
        refine gw_isub CX.1 dCompany_isFreshPair_40 ?_
        refine gw_bipush (v := 30) CX.1 dCompany_isFreshPair_41 (by decide) ?_
        refine gw_icmp_ge (tgt := 50) CX.1 dCompany_isFreshPair_43 (by decide) (fun c => ?_) (fun c => ?_)
        · replace H := H.1 c
          refine gw_iconst (v := 0) CX.1 dCompany_isFreshPair_50 (by decide) ?_
          exact gw_iret CX rfl (by decide) ⟨_, _, _, rfl, rfl, H⟩ (Nat.zero_le _) (Nat.zero_le _) dCompany_isFreshPair_51
        · replace H := H.2 c
          refine gw_iconst (v := 1) CX.1 dCompany_isFreshPair_46 (by decide) ?_
          refine gw_goto (tgt := 51) CX.1 dCompany_isFreshPair_47 (by decide) ?_
          exact gw_iret CX rfl (by decide) ⟨_, _, _, rfl, rfl, H⟩ (Nat.zero_le _) (Nat.zero_le _) dCompany_isFreshPair_51
    · replace H := H.2 c
      refine gw_iconst (v := 0) CX.1 dCompany_isFreshPair_16 (by decide) ?_
      exact gw_iret CX rfl (by decide) ⟨_, _, _, rfl, rfl, H⟩ (Nat.zero_le _) (Nat.zero_le _) dCompany_isFreshPair_17
theorem eCompany_isOut {D : va_G} {d : Nat} {Q : Int32 → (Nat → Nat → Int32) → (Nat → Int64) → Prop} {F : Nat → Nat → Int32} {G : Nat → Int64} {a0 : Int32} (H : AMi D d nCompany_outFrom [.ref 8, .int a0] F G (fun x1_ F1 G1 => ((30 ≤ x1_ → Q 0 F1 G1) ∧ (¬ (30 ≤ x1_) → Q 1 F1 G1)))) : AMi D (d + 1) nCompany_isOut [.ref 8, .int a0] F G Q := by
  refine AM_intro (by decide) (Nat.le_of_ble_eq_true rfl) ?_
  intro X CX
  refine gw_aload_n CX.1 0 rfl dCompany_isOut_0 rfl ?_
  refine gw_iload_n CX.1 1 rfl dCompany_isOut_1 rfl ?_
  refine cl_Company_outFrom CX (Nat.le_of_ble_eq_true rfl) wm_Company_91 dCompany_isOut_2 H (fun x1_ F1 G1 H => ?_)
  refine gw_bipush (v := 30) CX.1 dCompany_isOut_5 (by decide) ?_
  refine gw_icmp_ge (tgt := 14) CX.1 dCompany_isOut_7 (by decide) (fun c => ?_) (fun c => ?_)
  · replace H := H.1 c
    refine gw_iconst (v := 0) CX.1 dCompany_isOut_14 (by decide) ?_
    exact gw_iret CX rfl (by decide) ⟨_, _, _, rfl, rfl, H⟩ (Nat.zero_le _) (Nat.zero_le _) dCompany_isOut_15
  · replace H := H.2 c
    refine gw_iconst (v := 1) CX.1 dCompany_isOut_10 (by decide) ?_
    refine gw_goto (tgt := 15) CX.1 dCompany_isOut_11 (by decide) ?_
    exact gw_iret CX rfl (by decide) ⟨_, _, _, rfl, rfl, H⟩ (Nat.zero_le _) (Nat.zero_le _) dCompany_isOut_15
theorem bCompany_countOut_4 {D : va_G} {d : Nat} {Q : Int32 → (Nat → Nat → Int32) → (Nat → Int64) → Prop} {F : Nat → Nat → Int32} {G : Nat → Int64} {x1 : Int32} {x2 : Int32} (H : (((F 101 0) ≤ x2 → Q x1 F G) ∧ (¬ ((F 101 0) ≤ x2) → AMi D d nCompany_isOut [.ref 8, .int x2] F G (fun x1_ F1 G1 => ((x1_ = 0 → AWi D (d + 1) nCompany_countOut 4 [(0, .ref 8), (1, .int (x1 + 0)), (2, .int (x2 + 1))] [] F1 G1 Q) ∧ (¬ (x1_ = 0) → AWi D (d + 1) nCompany_countOut 4 [(0, .ref 8), (1, .int (x1 + 1)), (2, .int (x2 + 1))] [] F1 G1 Q)))))) : AWi D (d + 1) nCompany_countOut 4 [(0, .ref 8), (1, .int x1), (2, .int x2)] [] F G Q := by
  intro X CX
  refine gw_iload_n CX.1 2 rfl dCompany_countOut_4 rfl ?_
  refine gw_aload_n CX.1 0 rfl dCompany_countOut_5 rfl ?_
  refine gg_Company_9 CX.1 rfl dCompany_countOut_6 ?_
  refine gw_icmp_ge (tgt := 34) CX.1 dCompany_countOut_9 (by decide) (fun c => ?_) (fun c => ?_)
  · replace H := H.1 c
    refine gw_iload_n CX.1 1 rfl dCompany_countOut_34 rfl ?_
    exact gw_iret CX rfl rfl ⟨_, _, _, rfl, rfl, H⟩ (Nat.zero_le _) (Nat.zero_le _) dCompany_countOut_35
  · replace H := H.2 c
    refine gw_iload_n CX.1 1 rfl dCompany_countOut_12 rfl ?_
    refine gw_aload_n CX.1 0 rfl dCompany_countOut_13 rfl ?_
    refine gw_iload_n CX.1 2 rfl dCompany_countOut_14 rfl ?_
    refine cl_Company_isOut CX (Nat.le_of_ble_eq_true rfl) wm_Company_93 dCompany_countOut_15 H (fun x1_ F1 G1 H => ?_)
    refine gw_if_eq (tgt := 25) CX.1 dCompany_countOut_18 (by decide) (fun c => ?_) (fun c => ?_)
    · replace H := H.1 c
      refine gw_iconst (v := 0) CX.1 dCompany_countOut_25 (by decide) ?_
      refine gw_iadd CX.1 dCompany_countOut_26 ?_
      refine gw_istore_n CX.1 dCompany_countOut_27 rfl (by decide) rfl ?_
      refine gw_iinc (v := (x2 + 1)) CX.1 2 rfl dCompany_countOut_28 rfl (by decide) rfl ?_
      refine gw_goto (tgt := 4) CX.1 dCompany_countOut_31 (by decide) ?_
      exact gw_sub [2, 1, 0] rfl (H X CX)
    · replace H := H.2 c
      refine gw_iconst (v := 1) CX.1 dCompany_countOut_21 (by decide) ?_
      refine gw_goto (tgt := 26) CX.1 dCompany_countOut_22 (by decide) ?_
      refine gw_iadd CX.1 dCompany_countOut_26 ?_
      refine gw_istore_n CX.1 dCompany_countOut_27 rfl (by decide) rfl ?_
      refine gw_iinc (v := (x2 + 1)) CX.1 2 rfl dCompany_countOut_28 rfl (by decide) rfl ?_
      refine gw_goto (tgt := 4) CX.1 dCompany_countOut_31 (by decide) ?_
      exact gw_sub [2, 1, 0] rfl (H X CX)
theorem eCompany_countOut {D : va_G} {d : Nat} {Q : Int32 → (Nat → Nat → Int32) → (Nat → Int64) → Prop} {F : Nat → Nat → Int32} {G : Nat → Int64} (H : AWi D (d + 1) nCompany_countOut 4 [(0, .ref 8), (1, .int 0), (2, .int 0)] [] F G Q) : AMi D (d + 1) nCompany_countOut [.ref 8] F G Q := by
  refine AM_intro (by decide) (Nat.le_of_ble_eq_true rfl) ?_
  intro X CX
  refine gw_iconst (v := 0) CX.1 dCompany_countOut_0 (by decide) ?_
  refine gw_istore_n CX.1 dCompany_countOut_1 rfl (by decide) rfl ?_
  refine gw_iconst (v := 0) CX.1 dCompany_countOut_2 (by decide) ?_
  refine gw_istore_n CX.1 dCompany_countOut_3 rfl (by decide) rfl ?_
  exact gw_sub [2, 1, 0] rfl (H X CX)
theorem bCompany_countOwned_4 {D : va_G} {d : Nat} {Q : Int32 → (Nat → Nat → Int32) → (Nat → Int64) → Prop} {F : Nat → Nat → Int32} {G : Nat → Int64} {x1 : Int32} {x2 : Int32} (H : (((F 101 0) ≤ x2 → Q x1 F G) ∧ (¬ ((F 101 0) ≤ x2) → AMi D d nCompany_ownedBy [.ref 8, .int x2] F G (fun x1_ F1 G1 => ((x1_ = (-1000000005) → AWi D (d + 1) nCompany_countOwned 4 [(0, .ref 8), (1, .int (x1 + 0)), (2, .int (x2 + 1))] [] F1 G1 Q) ∧ (¬ (x1_ = (-1000000005)) → AWi D (d + 1) nCompany_countOwned 4 [(0, .ref 8), (1, .int (x1 + 1)), (2, .int (x2 + 1))] [] F1 G1 Q)))))) : AWi D (d + 1) nCompany_countOwned 4 [(0, .ref 8), (1, .int x1), (2, .int x2)] [] F G Q := by
  intro X CX
  refine gw_iload_n CX.1 2 rfl dCompany_countOwned_4 rfl ?_
  refine gw_aload_n CX.1 0 rfl dCompany_countOwned_5 rfl ?_
  refine gg_Company_9 CX.1 rfl dCompany_countOwned_6 ?_
  refine gw_icmp_ge (tgt := 36) CX.1 dCompany_countOwned_9 (by decide) (fun c => ?_) (fun c => ?_)
  · replace H := H.1 c
    refine gw_iload_n CX.1 1 rfl dCompany_countOwned_36 rfl ?_
    exact gw_iret CX rfl rfl ⟨_, _, _, rfl, rfl, H⟩ (Nat.zero_le _) (Nat.zero_le _) dCompany_countOwned_37
  · replace H := H.2 c
    refine gw_iload_n CX.1 1 rfl dCompany_countOwned_12 rfl ?_
    refine gw_aload_n CX.1 0 rfl dCompany_countOwned_13 rfl ?_
    refine gw_iload_n CX.1 2 rfl dCompany_countOwned_14 rfl ?_
    refine cl_Company_ownedBy CX (Nat.le_of_ble_eq_true rfl) wm_Company_96 dCompany_countOwned_15 H (fun x1_ F1 G1 H => ?_)
    refine gw_ldc CX.1 wc_Company_40 dCompany_countOwned_18 ?_
    refine gw_icmp_eq (tgt := 27) CX.1 dCompany_countOwned_20 (by decide) (fun c => ?_) (fun c => ?_)
    · replace H := H.1 c
      refine gw_iconst (v := 0) CX.1 dCompany_countOwned_27 (by decide) ?_
      refine gw_iadd CX.1 dCompany_countOwned_28 ?_
      refine gw_istore_n CX.1 dCompany_countOwned_29 rfl (by decide) rfl ?_
      refine gw_iinc (v := (x2 + 1)) CX.1 2 rfl dCompany_countOwned_30 rfl (by decide) rfl ?_
      refine gw_goto (tgt := 4) CX.1 dCompany_countOwned_33 (by decide) ?_
      exact gw_sub [2, 1, 0] rfl (H X CX)
    · replace H := H.2 c
      refine gw_iconst (v := 1) CX.1 dCompany_countOwned_23 (by decide) ?_
      refine gw_goto (tgt := 28) CX.1 dCompany_countOwned_24 (by decide) ?_
      refine gw_iadd CX.1 dCompany_countOwned_28 ?_
      refine gw_istore_n CX.1 dCompany_countOwned_29 rfl (by decide) rfl ?_
      refine gw_iinc (v := (x2 + 1)) CX.1 2 rfl dCompany_countOwned_30 rfl (by decide) rfl ?_
      refine gw_goto (tgt := 4) CX.1 dCompany_countOwned_33 (by decide) ?_
      exact gw_sub [2, 1, 0] rfl (H X CX)
theorem eCompany_countOwned {D : va_G} {d : Nat} {Q : Int32 → (Nat → Nat → Int32) → (Nat → Int64) → Prop} {F : Nat → Nat → Int32} {G : Nat → Int64} (H : AWi D (d + 1) nCompany_countOwned 4 [(0, .ref 8), (1, .int 0), (2, .int 0)] [] F G Q) : AMi D (d + 1) nCompany_countOwned [.ref 8] F G Q := by
  refine AM_intro (by decide) (Nat.le_of_ble_eq_true rfl) ?_
  intro X CX
  refine gw_iconst (v := 0) CX.1 dCompany_countOwned_0 (by decide) ?_
  refine gw_istore_n CX.1 dCompany_countOwned_1 rfl (by decide) rfl ?_
  refine gw_iconst (v := 0) CX.1 dCompany_countOwned_2 (by decide) ?_
  refine gw_istore_n CX.1 dCompany_countOwned_3 rfl (by decide) rfl ?_
  exact gw_sub [2, 1, 0] rfl (H X CX)
theorem bCompany_countFeuds_4 {D : va_G} {d : Nat} {Q : Int32 → (Nat → Nat → Int32) → (Nat → Int64) → Prop} {F : Nat → Nat → Int32} {G : Nat → Int64} {x1 : Int32} {x2 : Int32} (H : (((F 101 0) ≤ x2 → Q (x1 / 2) F G) ∧ (¬ ((F 101 0) ≤ x2) → AMi D d nCompany_foesOf [.ref 8, .int x2] F G (fun x1_ F1 G1 => AMi D d nInteger_bitCount [.int x1_] F1 G1 (fun x2_ F2 G2 => AWi D (d + 1) nCompany_countFeuds 4 [(0, .ref 8), (1, .int (x1 + x2_)), (2, .int (x2 + 1))] [] F2 G2 Q))))) : AWi D (d + 1) nCompany_countFeuds 4 [(0, .ref 8), (1, .int x1), (2, .int x2)] [] F G Q := by
  intro X CX
  refine gw_iload_n CX.1 2 rfl dCompany_countFeuds_4 rfl ?_
  refine gw_aload_n CX.1 0 rfl dCompany_countFeuds_5 rfl ?_
  refine gg_Company_9 CX.1 rfl dCompany_countFeuds_6 ?_
  refine gw_icmp_ge (tgt := 29) CX.1 dCompany_countFeuds_9 (by decide) (fun c => ?_) (fun c => ?_)
  · replace H := H.1 c
    refine gw_iload_n CX.1 1 rfl dCompany_countFeuds_29 rfl ?_
    refine gw_iconst (v := 2) CX.1 dCompany_countFeuds_30 (by decide) ?_
    refine gw_idiv CX.1 dCompany_countFeuds_31 (by decide) ?_
    exact gw_iret CX rfl rfl ⟨_, _, _, rfl, rfl, H⟩ (Nat.zero_le _) (Nat.zero_le _) dCompany_countFeuds_32
  · replace H := H.2 c
    refine gw_iload_n CX.1 1 rfl dCompany_countFeuds_12 rfl ?_
    refine gw_aload_n CX.1 0 rfl dCompany_countFeuds_13 rfl ?_
    refine gw_iload_n CX.1 2 rfl dCompany_countFeuds_14 rfl ?_
    refine cl_Company_foesOf CX (Nat.le_of_ble_eq_true rfl) wm_Company_88 dCompany_countFeuds_15 H (fun x1_ F1 G1 H => ?_)
    refine cl_Integer_bitCount CX (Nat.le_of_ble_eq_true rfl) wm_Company_99 dCompany_countFeuds_18 H (fun x2_ F2 G2 H => ?_)
    refine gw_iadd CX.1 dCompany_countFeuds_21 ?_
    refine gw_istore_n CX.1 dCompany_countFeuds_22 rfl (by decide) rfl ?_
    refine gw_iinc (v := (x2 + 1)) CX.1 2 rfl dCompany_countFeuds_23 rfl (by decide) rfl ?_
    refine gw_goto (tgt := 4) CX.1 dCompany_countFeuds_26 (by decide) ?_
    exact gw_sub [2, 1, 0] rfl (H X CX)
theorem eCompany_countFeuds {D : va_G} {d : Nat} {Q : Int32 → (Nat → Nat → Int32) → (Nat → Int64) → Prop} {F : Nat → Nat → Int32} {G : Nat → Int64} (H : AWi D (d + 1) nCompany_countFeuds 4 [(0, .ref 8), (1, .int 0), (2, .int 0)] [] F G Q) : AMi D (d + 1) nCompany_countFeuds [.ref 8] F G Q := by
  refine AM_intro (by decide) (Nat.le_of_ble_eq_true rfl) ?_
  intro X CX
  refine gw_iconst (v := 0) CX.1 dCompany_countFeuds_0 (by decide) ?_
  refine gw_istore_n CX.1 dCompany_countFeuds_1 rfl (by decide) rfl ?_
  refine gw_iconst (v := 0) CX.1 dCompany_countFeuds_2 (by decide) ?_
  refine gw_istore_n CX.1 dCompany_countFeuds_3 rfl (by decide) rfl ?_
  exact gw_sub [2, 1, 0] rfl (H X CX)
theorem bCompany_countFreshPairs_14 {D : va_G} {d : Nat} {Q : Int32 → (Nat → Nat → Int32) → (Nat → Int64) → Prop} {F : Nat → Nat → Int32} {G : Nat → Int64} {x1 : Int32} {x2 : Int32} {x3 : Int32} (H : (((F 101 0) ≤ x3 → AWi D (d + 1) nCompany_countFreshPairs 4 [(0, .ref 8), (1, .int x1), (2, .int (x2 + 1))] [] F G Q) ∧ (¬ ((F 101 0) ≤ x3) → AMi D d nCompany_isFreshPair [.ref 8, .int x2, .int x3] F G (fun x1_ F1 G1 => ((x1_ = 0 → AWi D (d + 1) nCompany_countFreshPairs 14 [(0, .ref 8), (1, .int (x1 + 0)), (2, .int x2), (3, .int (x3 + 1))] [] F1 G1 Q) ∧ (¬ (x1_ = 0) → AWi D (d + 1) nCompany_countFreshPairs 14 [(0, .ref 8), (1, .int (x1 + 1)), (2, .int x2), (3, .int (x3 + 1))] [] F1 G1 Q)))))) : AWi D (d + 1) nCompany_countFreshPairs 14 [(0, .ref 8), (1, .int x1), (2, .int x2), (3, .int x3)] [] F G Q := by
  intro X CX
  refine gw_iload_n CX.1 3 rfl dCompany_countFreshPairs_14 rfl ?_
  refine gw_aload_n CX.1 0 rfl dCompany_countFreshPairs_15 rfl ?_
  refine gg_Company_9 CX.1 rfl dCompany_countFreshPairs_16 ?_
  refine gw_icmp_ge (tgt := 45) CX.1 dCompany_countFreshPairs_19 (by decide) (fun c => ?_) (fun c => ?_)
  · replace H := H.1 c
    refine gw_iinc (v := (x2 + 1)) CX.1 2 rfl dCompany_countFreshPairs_45 rfl (by decide) rfl ?_
    refine gw_goto (tgt := 4) CX.1 dCompany_countFreshPairs_48 (by decide) ?_
    exact gw_sub [1, 2, 0] rfl (H X CX)
  · replace H := H.2 c
    refine gw_iload_n CX.1 1 rfl dCompany_countFreshPairs_22 rfl ?_
    refine gw_aload_n CX.1 0 rfl dCompany_countFreshPairs_23 rfl ?_
    refine gw_iload_n CX.1 2 rfl dCompany_countFreshPairs_24 rfl ?_
    refine gw_iload_n CX.1 3 rfl dCompany_countFreshPairs_25 rfl ?_
    refine cl_Company_isFreshPair CX (Nat.le_of_ble_eq_true rfl) wm_Company_85 dCompany_countFreshPairs_26 H (fun x1_ F1 G1 H => ?_)
    refine gw_if_eq (tgt := 36) CX.1 dCompany_countFreshPairs_29 (by decide) (fun c => ?_) (fun c => ?_)
    · replace H := H.1 c
      refine gw_iconst (v := 0) CX.1 dCompany_countFreshPairs_36 (by decide) ?_
      refine gw_iadd CX.1 dCompany_countFreshPairs_37 ?_
      refine gw_istore_n CX.1 dCompany_countFreshPairs_38 rfl (by decide) rfl ?_
      refine gw_iinc (v := (x3 + 1)) CX.1 3 rfl dCompany_countFreshPairs_39 rfl (by decide) rfl ?_
      refine gw_goto (tgt := 14) CX.1 dCompany_countFreshPairs_42 (by decide) ?_
      exact gw_sub [2, 1, 3, 0] rfl (H X CX)
    · replace H := H.2 c
      refine gw_iconst (v := 1) CX.1 dCompany_countFreshPairs_32 (by decide) ?_
      refine gw_goto (tgt := 37) CX.1 dCompany_countFreshPairs_33 (by decide) ?_
      refine gw_iadd CX.1 dCompany_countFreshPairs_37 ?_
      refine gw_istore_n CX.1 dCompany_countFreshPairs_38 rfl (by decide) rfl ?_
      refine gw_iinc (v := (x3 + 1)) CX.1 3 rfl dCompany_countFreshPairs_39 rfl (by decide) rfl ?_
      refine gw_goto (tgt := 14) CX.1 dCompany_countFreshPairs_42 (by decide) ?_
      exact gw_sub [2, 1, 3, 0] rfl (H X CX)
theorem bCompany_countFreshPairs_4 {D : va_G} {d : Nat} {Q : Int32 → (Nat → Nat → Int32) → (Nat → Int64) → Prop} {F : Nat → Nat → Int32} {G : Nat → Int64} {x1 : Int32} {x2 : Int32} (H : (((F 101 0) ≤ x2 → Q x1 F G) ∧ (¬ ((F 101 0) ≤ x2) → AWi D (d + 1) nCompany_countFreshPairs 14 [(0, .ref 8), (1, .int x1), (2, .int x2), (3, .int 0)] [] F G Q))) : AWi D (d + 1) nCompany_countFreshPairs 4 [(0, .ref 8), (1, .int x1), (2, .int x2)] [] F G Q := by
  intro X CX
  refine gw_iload_n CX.1 2 rfl dCompany_countFreshPairs_4 rfl ?_
  refine gw_aload_n CX.1 0 rfl dCompany_countFreshPairs_5 rfl ?_
  refine gg_Company_9 CX.1 rfl dCompany_countFreshPairs_6 ?_
  refine gw_icmp_ge (tgt := 51) CX.1 dCompany_countFreshPairs_9 (by decide) (fun c => ?_) (fun c => ?_)
  · replace H := H.1 c
    refine gw_iload_n CX.1 1 rfl dCompany_countFreshPairs_51 rfl ?_
    exact gw_iret CX rfl rfl ⟨_, _, _, rfl, rfl, H⟩ (Nat.zero_le _) (Nat.zero_le _) dCompany_countFreshPairs_52
  · replace H := H.2 c
    refine gw_iconst (v := 0) CX.1 dCompany_countFreshPairs_12 (by decide) ?_
    refine gw_istore_n CX.1 dCompany_countFreshPairs_13 rfl (by decide) rfl ?_
    exact gw_sub [1, 2, 3, 0] rfl (H X CX)
theorem eCompany_countFreshPairs {D : va_G} {d : Nat} {Q : Int32 → (Nat → Nat → Int32) → (Nat → Int64) → Prop} {F : Nat → Nat → Int32} {G : Nat → Int64} (H : AWi D (d + 1) nCompany_countFreshPairs 4 [(0, .ref 8), (1, .int 0), (2, .int 0)] [] F G Q) : AMi D (d + 1) nCompany_countFreshPairs [.ref 8] F G Q := by
  refine AM_intro (by decide) (Nat.le_of_ble_eq_true rfl) ?_
  intro X CX
  refine gw_iconst (v := 0) CX.1 dCompany_countFreshPairs_0 (by decide) ?_
  refine gw_istore_n CX.1 dCompany_countFreshPairs_1 rfl (by decide) rfl ?_
  refine gw_iconst (v := 0) CX.1 dCompany_countFreshPairs_2 (by decide) ?_
  refine gw_istore_n CX.1 dCompany_countFreshPairs_3 rfl (by decide) rfl ?_
  exact gw_sub [2, 1, 0] rfl (H X CX)
