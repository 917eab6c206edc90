section STEPS6
variable {D : va_G} {d : Nat} {Q : Int32 → gF → (Nat → Int64) → Prop} {F : gF} {G : Nat → Int64} {sl : Nat → Option Nat} {sv : Nat → Nat → Int32}
theorem i64N {n : Nat} (h : n < 2 ^ 63) : (Int64.ofNat n).toInt = (n : Int) := Int64.toInt_ofNat_of_lt h
theorem lgt {x k n : Nat} (hx : x < 2 ^ 31) (hk : k < 2 ^ 31) (hn : n < 2 ^ 31) : (0 < lg_cmp ((nI x).toInt64 + (nI k).toInt64) ((nI n).toInt64)) ↔ n < x + k := by
  rw [lg_cmp_gt, nI_l hx, nI_l hk, nI_l hn, show lN x + lN k = Int64.ofNat (x + k) from (Int64.ofNat_add x k).symm, Int64.lt_iff_toInt_lt, i64N (by omega), show lN n = Int64.ofNat n from rfl, i64N (by omega)]
  omega
theorem lle {x k n : Nat} (hx : x < 2 ^ 31) (hk : k < 2 ^ 31) (hn : n < 2 ^ 31) : (lg_cmp ((nI x).toInt64 + (nI k).toInt64) ((nI n).toInt64) ≤ 0) ↔ x + k ≤ n := by
  rw [lg_cmp_le, nI_l hx, nI_l hk, nI_l hn, show lN x + lN k = Int64.ofNat (x + k) from (Int64.ofNat_add x k).symm, Int64.le_iff_toInt_le, i64N (by omega), show lN n = Int64.ofNat n from rfl, i64N (by omega)]
  omega
theorem m_copy93 {s u x y k : Nat} (hs : s < 2) (hu : u < 2) (hx : x + k ≤ 30) (hy : y + k ≤ 30) (h : ∀ F', Fr [54, 59] F F' → (∀ q, F' 54 q = if u * 30 + y ≤ q ∧ q < u * 30 + y + k then F 54 (s * 30 + (x + (q - (u * 30 + y)))) else F 54 q) → Q (nI k) F' G) : AWi D (d + 1) nModel_copy 93 [(0, .ref 39), (1, .int (nI s)), (2, .int (nI x)), (3, .int (nI u)), (4, .int (nI y)), (5, .int (nI k)), (6, .int 0)] [] F G Q := by
  have two : ∀ F1, Fr [59] F F1 → (∀ j, j < k → F1 59 j = F 54 (s * 30 + (x + j))) → ∀ n i F', i + n = k → Fr [54, 59] F F' → F' 59 = F1 59 → (∀ q, F' 54 q = if u * 30 + y ≤ q ∧ q < u * 30 + y + i then F 54 (s * 30 + (x + (q - (u * 30 + y)))) else F 54 q) → AWi D (d + 1) nModel_copy 130 [(0, .ref 39), (1, .int (nI s)), (2, .int (nI x)), (3, .int (nI u)), (4, .int (nI y)), (5, .int (nI k)), (6, .int (nI i))] [] F' G Q := by
    intro F1 g1 g2 n
    induction n with
    | zero =>
      intro i F' hi f1 f2 f3
      refine bModel_copy_130 ?_
      rw [nI_leI (by omega) (by omega)]
      refine ⟨fun _ => h F' f1 (by rw [← show i = k by omega]; exact f3), fun e => absurd (by omega) e⟩
    | succ n ih =>
      intro i F' hi f1 f2 f3
      have hj := jx60' (s := u) (x := y) (i := i) hu (by omega)
      have hk := ix1 (n := 30) (c := i) (by omega) (by omega)
      refine bModel_copy_130 ?_
      rw [nI_leI (by omega) (by omega), nI_1]
      refine ⟨fun e => absurd e (by omega), fun _ => ⟨hk.1, hj.1, ?_⟩⟩
      rw [hj.2, hk.2, f2, g2 i (by omega)]
      refine ih (i + 1) _ (by omega) (f1.up (by decide)) (by rw [up_ne _ _ _ (by decide)]; exact f2) (fun q => ?_)
      rw [up_same, upd_i, f3 q]
      by_cases e : q = u * 30 + (y + i)
      · rw [if_pos e, if_pos (by omega), e, show x + (u * 30 + (y + i) - (u * 30 + y)) = x + i by omega]
      · rw [if_neg e]
        by_cases e2 : u * 30 + y ≤ q ∧ q < u * 30 + y + i
        · rw [if_pos e2, if_pos (by omega)]
        · rw [if_neg e2, if_neg (by omega)]
  have one : ∀ n i F', i + n = k → Fr [59] F F' → (∀ j, j < i → F' 59 j = F 54 (s * 30 + (x + j))) → AWi D (d + 1) nModel_copy 93 [(0, .ref 39), (1, .int (nI s)), (2, .int (nI x)), (3, .int (nI u)), (4, .int (nI y)), (5, .int (nI k)), (6, .int (nI i))] [] F' G Q := by
    intro n
    induction n with
    | zero =>
      intro i F' hi f1 f2
      refine bModel_copy_93 ?_
      rw [nI_leI (by omega) (by omega)]
      refine ⟨fun _ => two F' f1 (fun j hj => f2 j (by omega)) k 0 F' (by omega) (f1.sub (by decide)) rfl (fun q => ?_), fun e => absurd (by omega) e⟩
      rw [if_neg (by omega), f1 54 (by decide)]
    | succ n ih =>
      intro i F' hi f1 f2
      have hj := jx60' (s := s) (x := x) (i := i) hs (by omega)
      have hk := ix1 (n := 30) (c := i) (by omega) (by omega)
      refine bModel_copy_93 ?_
      rw [nI_leI (by omega) (by omega), nI_1]
      refine ⟨fun e => absurd e (by omega), fun _ => ⟨hj.1, hk.1, ?_⟩⟩
      rw [hj.2, hk.2, f1 54 (by decide)]
      refine ih (i + 1) _ (by omega) (f1.up (by decide)) (fun j hj => ?_)
      rw [up_same, upd_i]
      by_cases e : j = i
      · rw [if_pos e, e]
      · rw [if_neg e]
        exact f2 j (by omega)
  exact one k 0 F (by omega) Fr.rf (fun j hj => absurd hj (by omega))
theorem st_copy {a b c e f : Int32} : Step D (d + 5) nDesk_copy nModel_copy [.int a, .int b, .int c, .int e, .int f] := by
  intro F G ⟨T, dr, pl, mu, lf, P, Y, kd, sz, ow, dd, rh, fm, ou, hc, ca, ho, sl, sv, hS, hC, hN, hT⟩
  have same : RI F := ⟨T, dr, pl, mu, lf, P, Y, kd, sz, ow, dd, rh, fm, ou, hc, ca, ho, sl, sv, hS, hC, hN, hT⟩
  have bad0 : ¬ vp_in a 2 → AMi D (d + 5) nModel_copy [.ref 39, .int a, .int b, .int c, .int e, .int f] F G (fun r' F2 _ => (-1000000001 : Int32) = r' ∧ RI F2) := fun z => eModel_copy (m_isSheet0 z ⟨fun _ => ⟨rfl, same⟩, fun e => absurd rfl e⟩)
  have bad1 : ∀ s, s < 2 → a = nI s → ¬ vp_in c 2 → AMi D (d + 5) nModel_copy [.ref 39, .int a, .int b, .int c, .int e, .int f] F G (fun r' F2 _ => (-1000000001 : Int32) = r' ∧ RI F2) := by
    intro s hs ea z
    subst ea
    exact eModel_copy (m_isSheet1 hs ⟨fun e => absurd e ne10, fun _ => m_isSheet0 z ⟨fun e => absurd rfl e, fun _ => ⟨rfl, same⟩⟩⟩)
  have main : ∀ s u, s < 2 → u < 2 → a = nI s → c = nI u → AMi D (d + 4) nSheet_isMissing [.ref (rS s)] F G (fun x4_ F4 G4 => ((¬ x4_ = 0 → AMi D (d + 5) nModel_copy [.ref 39, .int a, .int b, .int c, .int e, .int f] F4 G4 (fun r' F2 _ => (-1000000011 : Int32) = r' ∧ RI F2)) ∧ (x4_ = 0 → AMi D (d + 4) nSheet_isMissing [.ref (rS u)] F4 G4 (fun x5_ F5 G5 => ((x5_ = 0 → AMi D (d + 4) nSheet_hasRun [.ref (rS s), .int b, .int f] F5 G5 (fun x6_ F6 G6 => ((x6_ = 0 → AMi D (d + 5) nModel_copy [.ref 39, .int a, .int b, .int c, .int e, .int f] F6 G6 (fun r' F2 _ => (-1000000013 : Int32) = r' ∧ RI F2)) ∧ (¬ (x6_ = 0) → AMi D (d + 4) nSheet_hasRun [.ref (rS u), .int e, .int f] F6 G6 (fun x7_ F7 G7 => ((¬ x7_ = 0 → AMv D (d + 4) nSheet_take [.ref (rS u), .ref (rS s), .int b, .int e, .int f] F7 G7 (fun F8 G8 => AMi D (d + 5) nModel_copy [.ref 39, .int a, .int b, .int c, .int e, .int f] F8 G8 (fun r' F2 _ => f = r' ∧ RI F2))) ∧ (x7_ = 0 → AMi D (d + 5) nModel_copy [.ref 39, .int a, .int b, .int c, .int e, .int f] F7 G7 (fun r' F2 _ => (-1000000013 : Int32) = r' ∧ RI F2)))))))) ∧ (¬ (x5_ = 0) → AMi D (d + 5) nModel_copy [.ref 39, .int a, .int b, .int c, .int e, .int f] F5 G5 (fun r' F2 _ => (-1000000011 : Int32) = r' ∧ RI F2))))))) := by
    intro s u hs hu ea ec
    subst ea
    subst ec
    have hi2 := ix1 (n := 2) (c := s) hs (by omega)
    have hj2 := ix1 (n := 2) (c := u) hu (by omega)
    have h53 := hT.2.1.1 s hs
    have g53 := hT.2.1.1 u hu
    refine c_missing hT.1 hT.2.2 hs ?_
    cases hn : sl s with
    | none =>
      refine ⟨fun _ => eModel_copy (m_isSheet1 hs ⟨fun e => absurd e ne10, fun _ => m_isSheet1 hu ⟨fun _ => ⟨hi2.1, ?_⟩, fun e => absurd e ne10⟩⟩), fun e => absurd e ne10⟩
      rw [hi2.2, h53, hn]
      exact ⟨fun _ => ⟨rfl, same⟩, fun e => absurd (by decide) e⟩
    | some n =>
      have hw := hT.2.2 s n hn
      rw [hn, oM_some] at h53
      refine ⟨fun e => absurd rfl e, fun _ => c_missing hT.1 hT.2.2 hu ?_⟩
      cases hm : sl u with
      | none =>
        refine ⟨fun e => absurd e ne10, fun _ => eModel_copy (m_isSheet1 hs ⟨fun e => absurd e ne10, fun _ => m_isSheet1 hu ⟨fun _ => ⟨hi2.1, ?_⟩, fun e => absurd e ne10⟩⟩)⟩
        rw [hi2.2, h53, hj2.2, g53, hm]
        exact ⟨fun e => absurd e (nI_pos (by omega)), fun _ => ⟨hj2.1, fun e => absurd e (by decide), fun _ => ⟨rfl, same⟩⟩⟩
      | some m =>
        have hw2 := hT.2.2 u m hm
        rw [hm, oM_some] at g53
        have ind : ¬ (∃ x y k, x + k ≤ n ∧ y + k ≤ m ∧ b = nI x ∧ e = nI y ∧ f = nI k) → AMi D (d + 5) nModel_copy [.ref 39, .int (nI s), .int b, .int (nI u), .int e, .int f] F G (fun r' F2 _ => (-1000000013 : Int32) = r' ∧ RI F2) := by
          intro z
          refine eModel_copy (m_isSheet1 hs ⟨fun e => absurd e ne10, fun _ => m_isSheet1 hu ⟨fun _ => ⟨hi2.1, ?_⟩, fun e => absurd e ne10⟩⟩)
          rw [hi2.2, h53, hj2.2, g53]
          refine ⟨fun e => absurd e (nI_pos (by omega)), fun _ => ⟨hj2.1, fun _ => ⟨fun _ => ⟨rfl, same⟩, fun c1 => ⟨fun _ => ⟨rfl, same⟩, fun c2 => ⟨fun _ => ⟨rfl, same⟩, fun c3 => ⟨hi2.1, ?_⟩⟩⟩⟩, fun e => absurd (nI_pos' (by omega)) e⟩⟩
          obtain ⟨x, hx, rfl⟩ := nI_of c1
          obtain ⟨y, hy, rfl⟩ := nI_of c2
          obtain ⟨k, hk, rfl⟩ := nI_of c3
          rw [lgt hx hk (by omega), lle hy hk (by omega)]
          refine ⟨fun _ => ⟨rfl, same⟩, fun c4 => ⟨hj2.1, fun c5 => absurd ⟨x, y, k, by omega, c5, rfl, rfl, rfl⟩ z, fun _ => ⟨rfl, same⟩⟩⟩
        refine ⟨fun _ => c_hasRun hT.1 hT.2.2 hs hn (fun x k hx e1 e2 => ⟨fun e => absurd e ne10, fun _ => c_hasRun hT.1 hT.2.2 hu hm (fun y k' hy e3 e4 => ⟨fun _ => ?_, fun e => absurd e ne10⟩) (fun z => ⟨fun e => absurd rfl e, fun _ => ind (fun ⟨x, y, k, h1, h2, h3, h4, h5⟩ => z ⟨y, k, h2, h4, h5⟩)⟩)⟩) (fun z => ⟨fun _ => ind (fun ⟨x, y, k, h1, h2, h3, h4, h5⟩ => z ⟨x, k, h1, h3, h5⟩), fun e => absurd rfl e⟩), fun e => absurd rfl e⟩
        subst e1
        subst e2
        subst e3
        have hk : k = k' := nI_inj (by omega) (by omega) e4
        subst hk
        refine c_take hT.1 hT.2.2 hs hu hn hm hx hy ?_
        have f1 : Fr [35, 37, 108, 109] F (upA F (rS u) (va_cpy (F (rS s)) (F (rS u)) x y k)) := Fr.rf.up (rS_mem hu)
        have hF1 : CSt sl (fun t i => if t = u ∧ y ≤ i ∧ i < y + k then sv s (x + (i - y)) else sv t i) (upA F (rS u) (va_cpy (F (rS s)) (F (rS u)) x y k)) := by
          refine CSt_mk (fun t ht => ?_) (fun t o i ht ho hi => ?_) (fun t i ht => ?_)
          · rw [upA_i, if_neg (lrn hu)]
            exact CSt_len hT.1 ht
          · rw [upA_i]
            by_cases e : t = u
            · rw [if_pos (rr e), va_cpy]
              by_cases e2 : y ≤ i ∧ i < y + k
              · rw [if_pos e2, if_pos ⟨e, e2⟩]
                exact CSt_row hT.1 hs hn (by omega)
              · rw [if_neg e2, if_neg (fun z => e2 z.2), ← e]
                exact CSt_row hT.1 ht ho hi
            · rw [if_neg (rrn e), if_neg (fun z => e z.1)]
              exact CSt_row hT.1 ht ho hi
          · rw [upA_i]
            by_cases e : t = u
            · rw [if_pos (rr e), va_cpy]
              split
              · exact CSt_fit hT.1 hs _
              · exact CSt_fit hT.1 hu i
            · rw [if_neg (rrn e)]
              exact CSt_fit hT.1 ht i
        generalize (upA F (rS u) (va_cpy (F (rS s)) (F (rS u)) x y k)) = F1 at hF1 f1 ⊢
        have ms := MSt_fr f1 (by decide) hT.2.1
        refine eModel_copy (m_isSheet1 hs ⟨fun e => absurd e ne10, fun _ => m_isSheet1 hu ⟨fun _ => ⟨hi2.1, ?_⟩, fun e => absurd e ne10⟩⟩)
        rw [hi2.2, hj2.2, ms.1 s hs, ms.1 u hu, hn, hm, oM_some, oM_some, lgt (by omega) (by omega) (by omega), lle (by omega) (by omega) (by omega)]
        refine ⟨fun e => absurd e (nI_pos (by omega)), fun _ => ⟨hj2.1, fun _ => ⟨fun e => absurd e (nI_pos (by omega)), fun _ => ⟨fun e => absurd e (nI_pos (by omega)), fun _ => ⟨fun e => absurd e (nI_pos (by omega)), fun _ => ⟨hi2.1, fun e => absurd e (by omega), fun _ => ⟨hj2.1, fun _ => ?_, fun e => absurd hy e⟩⟩⟩⟩⟩, fun e => absurd (nI_pos' (by omega)) e⟩⟩
        refine m_copy93 hs hu (by omega) (by omega) (fun F2 f2 g2 => ⟨rfl, ?_⟩)
        have f := f1.tr f2
        refine ⟨T, dr, pl, mu, lf, P, Y, kd, sz, ow, dd, rh, fm, ou, hc, ca, ho, _, _, RS_fr f (by decide) hS, RC_fr f (by decide) hC, RN_fr f (by decide) hN, CSt_fr f2 (by decide) hF1, ⟨fun t ht => ?_, fun t o i ht ho hi => ?_⟩, hT.2.2⟩
        · rw [f2 53 (by decide)]
          exact ms.1 t ht
        · have hw3 := hT.2.2 t o ho
          rw [g2]
          dsimp only
          by_cases e : t = u ∧ y ≤ i ∧ i < y + k
          · rw [if_pos (by omega), if_pos e, show t * 30 + i - (u * 30 + y) = i - y by omega]
            exact ms.2 s n _ hs hn (by omega)
          · rw [if_neg (by omega), if_neg e]
            exact ms.2 t o i ht ho hi
  refine eDesk_copy (c_sheetOf (fun s hs ea => ?_) (fun z => ⟨Or.inl rfl, fun _ => c_sheetOf (fun u hu ec => ?_) (fun z2 => ⟨Or.inl rfl, fun _ => bad0 z, fun e => (by cases e), fun e => (by cases e)⟩), fun e => (by cases e), fun e => (by cases e)⟩))
  · have hm := fun u hu ec => main s u hs hu ea ec
    have hb := bad1 s hs ea
    rcases two hs with rfl | rfl
    · refine ⟨Or.inr (Or.inl rfl), fun e => (by cases e), fun _ => c_sheetOf (fun u hu ec => ?_) (fun z2 => ⟨Or.inl rfl, fun _ => hb z2, fun e => (by cases e), fun e => (by cases e)⟩), fun e => (nref (by decide) e).elim⟩
      have hm := hm u hu ec
      rcases two hu with rfl | rfl
      · exact ⟨Or.inr (Or.inl rfl), fun e => (by cases e), fun _ => hm, fun e => (nref (by decide) e).elim⟩
      · exact ⟨Or.inr (Or.inr rfl), fun e => (by cases e), fun e => (nref (by decide) e).elim, fun _ => hm⟩
    · refine ⟨Or.inr (Or.inr rfl), fun e => (by cases e), fun e => (nref (by decide) e).elim, fun _ => c_sheetOf (fun u hu ec => ?_) (fun z2 => ⟨Or.inl rfl, fun _ => hb z2, fun e => (by cases e), fun e => (by cases e)⟩)⟩
      have hm := hm u hu ec
      rcases two hu with rfl | rfl
      · exact ⟨Or.inr (Or.inl rfl), fun e => (by cases e), fun _ => hm, fun e => (nref (by decide) e).elim⟩
      · exact ⟨Or.inr (Or.inr rfl), fun e => (by cases e), fun e => (nref (by decide) e).elim, fun _ => hm⟩
  · rcases two hu with rfl | rfl
    · exact ⟨Or.inr (Or.inl rfl), fun e => (by cases e), fun _ => bad0 z, fun e => (nref (by decide) e).elim⟩
    · exact ⟨Or.inr (Or.inr rfl), fun e => (by cases e), fun e => (nref (by decide) e).elim, fun _ => bad0 z⟩
end STEPS6
