section STEPS7
variable {D : va_G} {d : Nat} {Q : Int32 → gF → (Nat → Int64) → Prop} {F : gF} {G : Nat → Int64}
/-! lay -/
def gv (v : Int32) : Option Nat := if 0 ≤ v ∧ v ≤ 9 then some v.toNatClampNeg else none
theorem gv_le {v : Int32} {k : Nat} (h : gv v = some k) : k ≤ 9 := by
  unfold gv at h
  split at h
  · rename_i e
    cases h
    obtain ⟨g, -, g2, rfl⟩ := rng 0 9 (by omega) (by omega) e.1 e.2
    rw [nI_clamp (by omega)]
    exact g2
  · cases h
theorem gv_yes {v : Int32} (h1 : 0 ≤ v) (h2 : v ≤ 9) : gv v = some v.toNatClampNeg ∧ nI v.toNatClampNeg = v := by
  refine ⟨by unfold gv; rw [if_pos ⟨h1, h2⟩], ?_⟩
  obtain ⟨g, -, g2, rfl⟩ := rng 0 9 (by omega) (by omega) h1 h2
  rw [nI_clamp (by omega)]
theorem gv_no {v : Int32} (h : ¬ (0 ≤ v ∧ v ≤ 9)) : gv v = none := by unfold gv; rw [if_neg h]
def layP (pl : Nat → Nat → Option Nat) (t c : Nat) (v : Nat → Int32) : Nat → (Nat → Nat → Option Nat)
  | 0 => pl
  | i + 1 => up2 (layP pl t c v i) t (c + i) (gv (v i))
def layM (mu : Nat → Nat → Bool) (t c : Nat) (v : Nat → Int32) : Nat → (Nat → Nat → Bool)
  | 0 => mu
  | i + 1 => up2 (layM mu t c v i) t (c + i) ((gv (v i)).isSome && false)
def layL (lf : Nat → Option (Nat × Nat)) (t c : Nat) : Nat → (Nat → Option (Nat × Nat))
  | 0 => lf
  | i + 1 => clr (layL lf t c i) t (c + i)
theorem w_lay {T : Nat} {dr : Nat → Nat} {pl : Nat → Nat → Option Nat} {mu : Nat → Nat → Bool} {lf : Nat → Option (Nat × Nat)} {t c : Nat} {v : Nat → Int32} (w : WSh T dr pl mu lf) : ∀ i, WSh T dr (layP pl t c v i) (layM mu t c v i) (layL lf t c i)
  | 0 => w
  | i + 1 => w_put (fun k hk => gv_le hk) (w_lay w i)
theorem bDesk_lay_108 {s : Nat} (hs : s < 2) {x1 x2 x3 x5 x6 s0 s1 s2 : Int32} (h : AMv D d nShow_put [.ref 2, .int s2, .int s1, .int s0, .int 0] F G (fun F1 G1 => AWi D (d + 1) nDesk_lay 62 [(0, .ref 1), (1, .int x1), (2, .int x2), (3, .int x3), (4, .ref (rS s)), (5, .int (x5 + 1))] [] F1 G1 Q)) : AWi D (d + 1) nDesk_lay 108 [(0, .ref 1), (1, .int x1), (2, .int x2), (3, .int x3), (4, .ref (rS s)), (5, .int x5), (6, .int x6)] [.int s0, .int s1, .int s2, .ref 2] F G Q := by
  rcases two hs with rfl | rfl
  · exact bDesk_lay_108_v0 h
  · exact bDesk_lay_108_v1 h
theorem bDesk_lay_62 {s : Nat} (hs : s < 2) {x1 x2 x3 x5 : Int32} (h : AMi D d nSheet_length [.ref (rS s)] F G (fun x1_ F1 G1 => ((x1_ ≤ x5 → AMi D d nSheet_length [.ref (rS s)] F1 G1 (fun x2_ F2 G2 => Q x2_ F2 G2)) ∧ (¬ (x1_ ≤ x5) → AMi D d nSheet_valueAt [.ref (rS s), .int x5] F1 G1 (fun x3_ F3 G3 => AMi D d nDesk_isWithin [.int x3_, .int 0, .int 9] F3 G3 (fun x4_ F4 G4 => ((x4_ = 0 → AWi D (d + 1) nDesk_lay 108 [(0, .ref 1), (1, .int x1), (2, .int x2), (3, .int x3), (4, .ref (rS s)), (5, .int x5), (6, .int x3_)] [.int (-1000000005), .int (x2 + x5), .int x1, .ref 2] F4 G4 Q) ∧ (¬ (x4_ = 0) → AWi D (d + 1) nDesk_lay 108 [(0, .ref 1), (1, .int x1), (2, .int x2), (3, .int x3), (4, .ref (rS s)), (5, .int x5), (6, .int x3_)] [.int x3_, .int (x2 + x5), .int x1, .ref 2] F4 G4 Q)))))))) : AWi D (d + 1) nDesk_lay 62 [(0, .ref 1), (1, .int x1), (2, .int x2), (3, .int x3), (4, .ref (rS s)), (5, .int x5)] [] F G Q := by
  rcases two hs with rfl | rfl
  · exact bDesk_lay_62_v0 h
  · exact bDesk_lay_62_v1 h
theorem st_lay {a b e : Int32} : Step D (d + 5) nDesk_lay nModel_lay [.int a, .int b, .int e] := by
  intro F G ⟨T, dr, pl, mu, lf, P, Y, kd, sz, ow, dd, rh, fm, ou, hc, ca, ho, sl, sv, hS, hC, hN, hT⟩
  have same : RI F := ⟨T, dr, pl, mu, lf, P, Y, kd, sz, ow, dd, rh, fm, ou, hc, ca, ho, sl, sv, hS, hC, hN, hT⟩
  have hT8 := hS.1.1
  have bad : (¬ vp_in a T ∨ ¬ vp_in b 30 ∨ ¬ vp_in e 2) → AMi D (d + 5) nModel_lay [.ref 39, .int a, .int b, .int e] F G (fun r' F2 _ => (-1000000001 : Int32) = r' ∧ RI F2) := by
    intro hb
    refine eModel_lay (m_isTrack hS.2.1 (fun t ht ea => ⟨fun e => absurd e ne10, fun _ => ?_⟩) (fun _ => ⟨fun _ => ⟨rfl, same⟩, fun e => absurd rfl e⟩))
    by_cases h30 : vp_in b 30
    · obtain ⟨j, hj, rfl⟩ := vp_in_of h30 (by omega)
      refine m_isCue1 hj ⟨fun e => absurd e ne10, fun _ => m_isSheet0 ?_ ⟨fun e => absurd rfl e, fun _ => ⟨rfl, same⟩⟩⟩
      rcases hb with q | q | q
      · exact absurd (by rw [ea]; exact vp_in_nI ht (by omega)) q
      · exact absurd h30 q
      · exact q
    · exact m_isCue0 h30 ⟨fun _ => ⟨rfl, same⟩, fun e => absurd rfl e⟩
  have main : ∀ s, s < 2 → e = nI s → AMi D (d + 4) nShow_isTrack [.ref 2, .int a] F G (fun x4_ F4 G4 => ((x4_ = 0 → AMi D (d + 5) nModel_lay [.ref 39, .int a, .int b, .int e] F4 G4 (fun r' F2 _ => (-1000000001 : Int32) = r' ∧ RI F2)) ∧ (¬ (x4_ = 0) → AMi D (d + 4) nDesk_isCue [.int b] F4 G4 (fun x5_ F5 G5 => ((x5_ = 0 → AMi D (d + 5) nModel_lay [.ref 39, .int a, .int b, .int e] F5 G5 (fun r' F2 _ => (-1000000001 : Int32) = r' ∧ RI F2)) ∧ (¬ (x5_ = 0) → AMi D (d + 4) nSheet_isMissing [.ref (rS s)] F5 G5 (fun x6_ F6 G6 => ((x6_ = 0 → AMi D (d + 4) nSheet_length [.ref (rS s)] F6 G6 (fun x7_ F7 G7 => ((x7_ ≤ (30 - b) → AWi D (d + 5) nDesk_lay 62 [(0, .ref 1), (1, .int a), (2, .int b), (3, .int e), (4, .ref (rS s)), (5, .int 0)] [] F7 G7 (fun r F1 G1 => AMi D (d + 5) nModel_lay [.ref 39, .int a, .int b, .int e] F1 G1 (fun r' F2 _ => r = r' ∧ RI F2))) ∧ (¬ (x7_ ≤ (30 - b)) → AMi D (d + 5) nModel_lay [.ref 39, .int a, .int b, .int e] F7 G7 (fun r' F2 _ => (-1000000013 : Int32) = r' ∧ RI F2))))) ∧ (¬ (x6_ = 0) → AMi D (d + 5) nModel_lay [.ref 39, .int a, .int b, .int e] F6 G6 (fun r' F2 _ => (-1000000011 : Int32) = r' ∧ RI F2)))))))))) := by
    intro s hs ee
    refine c_isTrack hS.1 (fun t ht ea => ⟨fun e => absurd e ne10, fun _ => c_isCue (fun c hc30 eb => ⟨fun e => absurd e ne10, fun _ => ?_⟩) (fun z => ⟨fun _ => bad (Or.inr (Or.inl z)), fun e => absurd rfl e⟩)⟩) (fun z => ⟨fun _ => bad (Or.inl z), fun e => absurd rfl e⟩)
    subst ea
    subst eb
    subst ee
    have hi2 := ix1 (n := 2) (c := s) hs (by omega)
    have h53 := hT.2.1.1 s hs
    refine c_missing hT.1 hT.2.2 hs ?_
    cases hn : sl s with
    | none =>
      refine ⟨fun e => absurd e ne10, fun _ => eModel_lay (m_isTrack1 hS.2.1 ht ⟨fun e => absurd e ne10, fun _ => m_isCue1 hc30 ⟨fun e => absurd e ne10, fun _ => m_isSheet1 hs ⟨fun _ => ⟨hi2.1, ?_⟩, fun e => absurd e ne10⟩⟩⟩)⟩
      rw [hi2.2, h53, hn]
      exact ⟨fun e => absurd e (by decide), fun _ => ⟨rfl, same⟩⟩
    | some n =>
      have hw := hT.2.2 s n hn
      rw [hn, oM_some] at h53
      refine ⟨fun _ => c_slen hT.1 hs ?_, fun e => absurd rfl e⟩
      rw [hn, oM_some, l30, pk_sub (by omega), nI_leI (by omega) (by omega)]
      refine ⟨fun hle => ?_, fun hle => eModel_lay (m_isTrack1 hS.2.1 ht ⟨fun e => absurd e ne10, fun _ => m_isCue1 hc30 ⟨fun e => absurd e ne10, fun _ => m_isSheet1 hs ⟨fun _ => ⟨hi2.1, ?_⟩, fun e => absurd e ne10⟩⟩⟩)⟩
      · -- the class lays
        have mod : ∀ F1 G1, CSh T dr (layP pl t c (sv s) n) (layM mu t c (sv s) n) (layL lf t c n) F1 → Fr [3, 4, 5, 6] F F1 → AMi D (d + 5) nModel_lay [.ref 39, .int (nI t), .int (nI c), .int (nI s)] F1 G1 (fun r' F2 _ => nI n = r' ∧ RI F2) := by
          intro F1 G1 c1 f1
          have ms := MSt_fr f1 (by decide) hT.2.1
          have mh := MSh_fr f1 (by decide) hS.2.1
          refine eModel_lay (m_isTrack1 mh ht ⟨fun e => absurd e ne10, fun _ => m_isCue1 hc30 ⟨fun e => absurd e ne10, fun _ => m_isSheet1 hs ⟨fun _ => ⟨hi2.1, ?_⟩, fun e => absurd e ne10⟩⟩⟩)
          rw [hi2.2, ms.1 s hs, hn, oM_some, l30, pk_sub (by omega), nI_leI (by omega) (by omega)]
          refine ⟨fun _ => ⟨hi2.1, fun _ => ?_, fun e => absurd hle e⟩, fun e => absurd (nI_pos' (by omega)) e⟩
          have key : ∀ k i F2, i + k = n → MSh T dr (layP pl t c (sv s) i) (layM mu t c (sv s) i) (layL lf t c i) F2 → Fr [40, 41, 42] F1 F2 → AWi D (d + 5) nModel_lay 56 [(0, .ref 39), (1, .int (nI t)), (2, .int (nI c)), (3, .int (nI s)), (4, .int (nI i))] [] F2 G1 (fun r' F2 _ => nI n = r' ∧ RI F2) := by
            intro k
            induction k with
            | zero =>
              intro i F2 hi m2 f2
              have ms2 := MSt_fr f2 (by decide) ms
              refine bModel_lay_56 ⟨hi2.1, ?_⟩
              rw [hi2.2, ms2.1 s hs, hn, oM_some, nI_leI (by omega) (by omega)]
              refine ⟨fun _ => ⟨hi2.1, rfl, ?_⟩, fun e => absurd (by omega) e⟩
              have f := f1.tr f2
              have e : i = n := by omega
              rw [e] at m2
              exact ⟨T, dr, _, _, _, P, Y, kd, sz, ow, dd, rh, fm, ou, hc, ca, ho, sl, sv, ⟨CSh_fr f2 (by decide) c1, m2, w_lay hS.2.2 n⟩, RC_fr f (by decide) hC, RN_fr f (by decide) hN, RT_fr f (by decide) hT⟩
            | succ k ih =>
              intro i F2 hi m2 f2
              have ms2 := MSt_fr f2 (by decide) ms
              have hj := jx60 (s := s) (i := i) hs (by omega)
              refine bModel_lay_56 ⟨hi2.1, ?_⟩
              rw [hi2.2, ms2.1 s hs, hn, oM_some, nI_leI (by omega) (by omega)]
              refine ⟨fun e => absurd e (by omega), fun _ => ⟨hj.1, ?_⟩⟩
              rw [hj.2, ms2.2 s n i hs hn (by omega), nI_add]
              have put : ∀ x5, AWi D (d + 5) nModel_lay 104 [(0, .ref 39), (1, .int (nI t)), (2, .int (nI c)), (3, .int (nI s)), (4, .int (nI i)), (5, .int x5)] [.int (oM (gv (sv s i))), .int (nI (c + i)), .int (nI t), .ref 39] F2 G1 (fun r' F2 _ => nI n = r' ∧ RI F2) := by
                intro x5
                refine bModel_lay_104 (m_put1 m2 (w_lay hS.2.2 i) ht (by omega) (gv (sv s i)) (fun k hk => by have := gv_le hk; omega) false (fun F3 m3 f3 => ?_))
                rw [nI_1]
                exact ih (i + 1) F3 (by omega) m3 ((f2.tr f3).sub (by decide))
              refine m_isIn (fun z1 z2 => ⟨fun e => absurd e ne10, fun _ => ?_⟩) (fun z => ⟨fun _ => ?_, fun e => absurd rfl e⟩)
              · have p := put (sv s i)
                obtain ⟨g1, g2⟩ := gv_yes z1 z2
                rw [g1, oM_some, g2] at p
                exact p
              · have p := put (sv s i)
                rw [gv_no z] at p
                exact p
          exact key n 0 F1 (by omega) mh Fr.rf
        have key : ∀ k i F1, i + k = n → CSh T dr (layP pl t c (sv s) i) (layM mu t c (sv s) i) (layL lf t c i) F1 → Fr [3, 4, 5, 6] F F1 → AWi D (d + 5) nDesk_lay 62 [(0, .ref 1), (1, .int (nI t)), (2, .int (nI c)), (3, .int (nI s)), (4, .ref (rS s)), (5, .int (nI i))] [] F1 G (fun r F1 G1 => AMi D (d + 5) nModel_lay [.ref 39, .int (nI t), .int (nI c), .int (nI s)] F1 G1 (fun r' F2 _ => r = r' ∧ RI F2)) := by
          intro k
          induction k with
          | zero =>
            intro i F1 hi c1 f1
            have cs := CSt_fr f1 (by decide) hT.1
            refine bDesk_lay_62 hs (c_slen cs hs ?_)
            rw [hn, oM_some, nI_leI (by omega) (by omega)]
            refine ⟨fun _ => c_slen cs hs ?_, fun e => absurd (by omega) e⟩
            rw [hn, oM_some]
            have e : i = n := by omega
            rw [e] at c1
            exact mod F1 G c1 f1
          | succ k ih =>
            intro i F1 hi c1 f1
            have cs := CSt_fr f1 (by decide) hT.1
            refine bDesk_lay_62 hs (c_slen cs hs ?_)
            rw [hn, oM_some, nI_leI (by omega) (by omega)]
            refine ⟨fun e => absurd e (by omega), fun _ => c_valueAt cs hT.2.2 hs hn (by omega) ?_⟩
            rw [nI_add]
            have put : ∀ x6, AWi D (d + 5) nDesk_lay 108 [(0, .ref 1), (1, .int (nI t)), (2, .int (nI c)), (3, .int (nI s)), (4, .ref (rS s)), (5, .int (nI i)), (6, .int x6)] [.int (oN (gv (sv s i))), .int (nI (c + i)), .int (nI t), .ref 2] F1 G (fun r F1 G1 => AMi D (d + 5) nModel_lay [.ref 39, .int (nI t), .int (nI c), .int (nI s)] F1 G1 (fun r' F2 _ => r = r' ∧ RI F2)) := by
              intro x6
              refine bDesk_lay_108 hs (c_put1 c1 (w_lay hS.2.2 i) ht (by omega) (gv (sv s i)) (fun k hk => by have := gv_le hk; omega) false (fun F3 m3 f3 => ?_))
              rw [nI_1]
              exact ih (i + 1) F3 (by omega) m3 ((f1.tr f3).sub (by decide))
            refine c_isWithin (fun z1 z2 => ⟨fun e => absurd e ne10, fun _ => ?_⟩) (fun z => ⟨fun _ => ?_, fun e => absurd rfl e⟩)
            · have p := put (sv s i)
              obtain ⟨g1, g2⟩ := gv_yes z1 z2
              rw [g1, oN_some, g2] at p
              exact p
            · have p := put (sv s i)
              rw [gv_no z] at p
              exact p
        exact key n 0 F (by omega) hS.1 Fr.rf
      · rw [hi2.2, h53, l30, pk_sub (by omega), nI_leI (by omega) (by omega)]
        exact ⟨fun _ => ⟨hi2.1, fun e => absurd e hle, fun _ => ⟨rfl, same⟩⟩, fun e => absurd (nI_pos' (by omega)) e⟩
  refine eDesk_lay (c_sheetOf (fun s hs ee => ?_) (fun z => ⟨Or.inl rfl, fun _ => c_isTrack hS.1 (fun t ht ea => ⟨fun _ => bad (Or.inr (Or.inr z)), fun _ => c_isCue (fun c hc30 eb => ⟨fun _ => bad (Or.inr (Or.inr z)), fun _ => bad (Or.inr (Or.inr z))⟩) (fun _ => ⟨fun _ => bad (Or.inr (Or.inr z)), fun _ => bad (Or.inr (Or.inr z))⟩)⟩) (fun _ => ⟨fun _ => bad (Or.inr (Or.inr z)), fun e => absurd rfl e⟩), fun e => (by cases e), fun e => (by cases e)⟩))
  have hm := main s hs ee
  rcases two hs with rfl | rfl
  · exact ⟨Or.inr (Or.inl rfl), fun e => (by cases e), fun _ => hm, fun e => (nref (by decide) e).elim⟩
  · exact ⟨Or.inr (Or.inr rfl), fun e => (by cases e), fun e => (nref (by decide) e).elim, fun _ => hm⟩
end STEPS7
