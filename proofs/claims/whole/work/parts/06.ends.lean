section GENDS
variable {X : gCx} {M : gMd} {pc : Nat} {L : List (Nat × Value)} {S : List Value} {h : gAH} {kc ks : Nat} {D : va_G} {d : Nat} {Q : Option Value → gAH → Prop}
theorem gq_end {s t : State} {b : Nat} {A : Nat → Prop} {s0 : List Nat} {H : Heap} {ws : va_W} {locs : List Loc} {args : Array Value} {v v' : Option Value} (hq : Q v h) (hv : gROV (b :: ws.map Prod.fst) v v') (hP : va_P D gcl ws H) (hD : va_D A ws) (hS : va_S A s.heap H locs) (hRH : gRH s (b :: ws.map Prod.fst) h ws) (hK : va_K D gcl [] s) (hpre : s0 <+: ws.map Prod.fst) (ht : t.heap = H) (hW : s.WarmedH t.vm) : gQC D b s0 A Q args s (.returned v') t :=
  ⟨⟨v, v', h, ws, rfl, hq, hv, by rw [ht]; exact hP, va_K.moved hW.alike hK, hD, gRH_moved hW.alike hRH, hpre⟩, hS.F ht⟩
theorem gw_iret (CX : gCX D d M Q X) {ty : FieldType} {x : Int32} (hr : M.2.2.2.1 = some ty) (hn : narrow ty (.int x) = .int x) (hq : Q (some (.int x)) h) (hkc : kc ≤ M.2.2.2.2.1) (hks : ks ≤ M.2.2.2.2.2) (hd : decode M.2.1 pc = .ok (.ireturn, 1)) : GW X M pc L [.int x] h kc ks := by
  obtain ⟨⟨p, l, e, R, s, m, args, below⟩, ⟨meth, c, D', b, A, s0, Z⟩⟩ := X
  obtain ⟨⟨hx, hb, hml, hown, hts, hN, hK, hA⟩, hD0, hR, hret, hlocks, hnm, hZ⟩ := CX
  subst hD0
  subst hZ
  intro ws H locs ls S' ⟨hP, hD, hS, hRH, hpre, hL, hSt⟩
  obtain ⟨S1, rfl, hSt1⟩ := gRS_int hSt
  cases gRS_nil hSt1
  refine W.widen hkc hks ?_
  exact W.zret hx hb (hret.trans hr) hn (fun t ht hW => gq_end hq ⟨_, rfl, rfl⟩ hP hD hS hRH hK hpre ht hW) hS.2.2 hd hlocks
theorem gw_lret (CX : gCX D d M Q X) {x : Int64} (hr : M.2.2.2.1 = some .long) (hq : Q (some (.long x)) h) (hkc : kc ≤ M.2.2.2.2.1) (hks : ks ≤ M.2.2.2.2.2) (hd : decode M.2.1 pc = .ok (.lreturn, 1)) : GW X M pc L [.long x] h kc ks := by
  obtain ⟨⟨p, l, e, R, s, m, args, below⟩, ⟨meth, c, D', b, A, s0, Z⟩⟩ := X
  obtain ⟨⟨hx, hb, hml, hown, hts, hN, hK, hA⟩, hD0, hR, hret, hlocks, hnm, hZ⟩ := CX
  subst hD0
  subst hZ
  intro ws H locs ls S' ⟨hP, hD, hS, hRH, hpre, hL, hSt⟩
  obtain ⟨S1, rfl, hSt1⟩ := gRS_long hSt
  cases gRS_nil hSt1
  refine W.widen hkc hks ?_
  exact W.lret hx hb (hret.trans hr) (fun t ht hW => gq_end hq ⟨_, rfl, rfl⟩ hP hD hS hRH hK hpre ht hW) hS.2.2 hd hlocks
theorem gw_vret (CX : gCX D d M Q X) (hr : M.2.2.2.1 = none) (hq : Q none h) (hkc : kc ≤ M.2.2.2.2.1) (hks : ks ≤ M.2.2.2.2.2) (hd : decode M.2.1 pc = .ok (.return_, 1)) : GW X M pc L [] h kc ks := by
  obtain ⟨⟨p, l, e, R, s, m, args, below⟩, ⟨meth, c, D', b, A, s0, Z⟩⟩ := X
  obtain ⟨⟨hx, hb, hml, hown, hts, hN, hK, hA⟩, hD0, hR, hret, hlocks, hnm, hZ⟩ := CX
  subst hD0
  subst hZ
  intro ws H locs ls S' ⟨hP, hD, hS, hRH, hpre, hL, hSt⟩
  cases gRS_nil hSt
  refine W.widen hkc hks ?_
  exact W.vret hx hb (hret.trans hr) (fun t ht hW => gq_end hq rfl hP hD hS hRH hK hpre ht hW) hS.2.2 hd hlocks
theorem gw_aret (CX : gCX D d M Q X) {Cn : String} {q : Nat} (hr : M.2.2.2.1 = some (.object Cn)) (hq : Q (some (.ref q)) h) (hkc : kc ≤ M.2.2.2.2.1) (hks : ks ≤ M.2.2.2.2.2) (hd : decode M.2.1 pc = .ok (.areturn, 1)) : GW X M pc L [.ref q] h kc ks := by
  obtain ⟨⟨p, l, e, R, s, m, args, below⟩, ⟨meth, c, D', b, A, s0, Z⟩⟩ := X
  obtain ⟨⟨hx, hb, hml, hown, hts, hN, hK, hA⟩, hD0, hR, hret, hlocks, hnm, hZ⟩ := CX
  subst hD0
  subst hZ
  intro ws H locs ls S' ⟨hP, hD, hS, hRH, hpre, hL, hSt⟩
  obtain ⟨a, S1, ha, rfl, hSt1⟩ := gRS_ref hSt
  cases gRS_nil hSt1
  refine W.widen hkc hks ?_
  exact W.aret hx hb (hret.trans hr) (Or.inl ⟨_, rfl⟩) (Or.inr ⟨_, rfl⟩) (fun t ht hW => gq_end hq ⟨_, rfl, a, ha, rfl⟩ hP hD hS hRH hK hpre ht hW) hS.2.2 hd hlocks
theorem gw_aretN (CX : gCX D d M Q X) {Cn : String} (hr : M.2.2.2.1 = some (.object Cn)) (hq : Q (some .null) h) (hkc : kc ≤ M.2.2.2.2.1) (hks : ks ≤ M.2.2.2.2.2) (hd : decode M.2.1 pc = .ok (.areturn, 1)) : GW X M pc L [.null] h kc ks := by
  obtain ⟨⟨p, l, e, R, s, m, args, below⟩, ⟨meth, c, D', b, A, s0, Z⟩⟩ := X
  obtain ⟨⟨hx, hb, hml, hown, hts, hN, hK, hA⟩, hD0, hR, hret, hlocks, hnm, hZ⟩ := CX
  subst hD0
  subst hZ
  intro ws H locs ls S' ⟨hP, hD, hS, hRH, hpre, hL, hSt⟩
  obtain ⟨S1, rfl, hSt1⟩ := gRS_null hSt
  cases gRS_nil hSt1
  refine W.widen hkc hks ?_
  exact W.aret hx hb (hret.trans hr) (Or.inl ⟨_, rfl⟩) (Or.inl rfl) (fun t ht hW => gq_end hq ⟨_, rfl, rfl⟩ hP hD hS hRH hK hpre ht hW) hS.2.2 hd hlocks
/-- a copy of places from one array to another, or within one -/
theorem gw_copy (C : gC X M) {index q0 q1 n0 n1 : Nat} {f g : Nat → Int32} {ty : FieldType} (h0 : h[q0]? = some (.inl (ty, n0, .inl f))) (h1 : h[q1]? = some (.inl (ty, n1, .inl g))) (hprim : refKind ty = false) {sp dp n : Int32} (g1 : ¬ sp < 0) (g2 : ¬ dp < 0) (g3 : ¬ n < 0) (g4 : sp.toNatClampNeg + n.toNatClampNeg ≤ n0) (g5 : dp.toNatClampNeg + n.toNatClampNeg ≤ n1) (hfit : ∀ i, i < n.toNatClampNeg → fits ty (.int (f (sp.toNatClampNeg + i))) = true) (hl : Cond.methodLink M.1.cls index arraycopyName ∈ gT) (hnat : Cond.native arraycopyName ∈ gT) (hst : Cond.static arraycopyName ∈ gT) (hini : Cond.initialized "java/lang/System" ∈ gT) (hsum : (S.map fun v => v.category).sum ≤ 8) (hR : match X with | ((_, _, _, R, _, _, _, _), _) => 1 ≤ R.frames ∧ nativeFrameWords "java/lang/System" "arraycopy" 5 + 19 ≤ R.locals) (hd : decode M.2.1 pc = .ok (.invokestatic index, 3)) (k : GW X M (pc + 3) L S (h.set q1 (.inl (ty, n1, .inl (va_cpy f g sp.toNatClampNeg dp.toNatClampNeg n.toNatClampNeg)))) kc ks) : GW X M pc L (.int n :: .int dp :: .ref (q1 + 1) :: .int sp :: .ref (q0 + 1) :: S) h kc ks := by
  obtain ⟨⟨p, l, e, R, s, m, args, below⟩, ⟨meth, c, D, b, A, s0, Z⟩⟩ := X
  obtain ⟨hx, hb, hml, hown, hts, hN, hK, hA⟩ := C
  intro ws H locs ls S' ⟨hP, hD, hS, hRH, hpre, hL, hSt⟩
  obtain ⟨S1, rfl, hSt1⟩ := gRS_int hSt
  obtain ⟨S2, rfl, hSt2⟩ := gRS_int hSt1
  obtain ⟨a1, S3, ha1, rfl, hSt3⟩ := gRS_ref hSt2
  obtain ⟨S4, rfl, hSt4⟩ := gRS_int hSt3
  obtain ⟨a0, S5, ha0, rfl, hSt5⟩ := gRS_ref hSt4
  obtain ⟨e0, he0, c0, x0, rfl, hA1, hA2, hra⟩ := gRH_at hRH h0 ha0
  cases hra
  obtain ⟨e1, he1, c1, x1, rfl, hB1, hB2, hrb⟩ := gRH_at hRH h1 ha1
  cases hrb
  obtain ⟨L', hl1, hLP⟩ := hL
  have hcat := gRS_cat hSt5
  refine va_copyi hx hb (by rw [hml]; exact hl1.1.symm) hown (hts _ hl) (hts _ hnat) (hts _ hst) (hts _ hini) (tys := [(c0, ty), (c1, ty)]) ⟨hK.1, fun k q hk => by cases k with | zero => cases hk; exact ⟨hA1, hA2⟩ | succ k => cases k with | zero => cases hk; exact ⟨hB1, hB2⟩ | succ k => simp at hk⟩ hP hD hS q0 q1 0 1 he0 he1 rfl rfl hprim g1 g2 g3 g4 g5 hfit hR.1 ?_ hd (fun H1 locs1 hP1 hD1 hS1 => ?_)
  · have hr := hR.2
    rw [hcat]
    omega
  · refine k _ H1 locs1 ls _ ⟨hP1, hD1, hS1, gRH_set hRH he1 ⟨c1, _, rfl, hB1, hB2, rfl⟩, ?_, ?_, ?_⟩
    · rw [gmap_set he1]; exact hpre
    · rw [gmap_set he1]; exact ⟨L', hl1, hLP⟩
    · rw [gmap_set he1]; exact hSt5
/-- a contract out of the walk from the method's entry -/
theorem AM_intro {av : List Value} (hpl : plainName M.1.cls = true) (hsl : (lg_sl av).length ≤ M.2.2.1) (k : AW D d M 0 (lv_args 0 av) [] h 0 0 Q) : AM D d M av h Q := by
  intro l b ws sz av' hav
  refine Met.ofW (cc := M.2.1) (maxL := M.2.2.1) (ret := M.2.2.2.1) hpl rfl ?_
  intro p e s m args below meth c s₁ B hml hv
  obtain ⟨rfl, hsz, hP, hK, hD0, hRH, hN⟩ := hv
  have hts := atoms_spec (ws := gWs M) B.pre
  have hown : s.vm.findClass M.1.cls = some m.cls := findClass_of_methodNamed B.named
  subst hsz
  have hl := lv_entry av' (n := M.2.2.1) (by rw [gRS_sl hav]; exact hsl)
  rw [lg_entry_eq]
  have hD := hD0.self (sz := s.heap.size)
  have hk := k ((p, l, e, gRm d M, s, m, av'.toArray, below), (meth, c, D, b, va_A ws s.heap.size, ws.map Prod.fst, MQ below (gQC D b (ws.map Prod.fst) (va_A ws s.heap.size) Q) av'.toArray s M.2.2.2.2.1 M.2.2.2.2.2 (va_A ws s.heap.size))) ⟨⟨B.exec, B.bytes, hml, hown, fun w hw => hts w (List.mem_cons_of_mem _ hw), hN, hK, fun q hq => Or.inr hq⟩, rfl, rfl, B.returns, B.notSynchronized, (name_of_methodNamed B.named B.method).1, rfl⟩
  exact hk ws s.heap [] _ [] ⟨hP, hD, va_S.rf, hRH, List.prefix_rfl, ⟨_, hl, gRP_args hav 0⟩, trivial⟩
theorem AM_weaken {av : List Value} {Q' : Option Value → gAH → Prop} (hq : ∀ r h', Q r h' → Q' r h') (k : AM D d M av h Q) : AM D d M av h Q' := by
  intro l b ws sz av' hav p e ha hc hk s m args below hf hh hP hT
  obtain ⟨k1, o, h1, h2, h3, ⟨⟨⟨v, v', h', ws', q1, q2, q3⟩, q4⟩, q5⟩⟩ := k l b ws sz av' hav p e ha hc hk s m args below hf hh hP hT
  exact ⟨k1, o, h1, h2, h3, ⟨⟨v, v', h', ws', q1, hq _ _ q2, q3⟩, q4⟩, q5⟩
end GENDS
