section GCALLS
variable {X : gCx} {M : gMd} {pc : Nat} {L : List (Nat × Value)} {S : List Value} {h : gAH} {kc ks : Nat}
theorem gpre {b : Nat} {s0 s1 : List Nat} (hp : s0 <+: s1) : ∃ t, b :: s1 = (b :: s0) ++ t := by
  obtain ⟨t, rfl⟩ := hp
  exact ⟨t, rfl⟩
/-- a new array -/
theorem gw_newarr (C : gC X M) {atype : ArrayType} {ty : FieldType} {n : Int32} {N : Nat} {a0 : (Nat → Int32) ⊕ (Nat → Int64) ⊕ (Nat → UInt32) ⊕ (Nat → UInt64) ⊕ (Nat → Option Nat)} (hc : Cond.arrayClass (newarray.typeOf atype) ∈ gT) (hty : newarray.typeOf atype = ty) (ha : ∀ cA : ClassId, vp_cell cA (N, a0) = arrV cA N (fun _ => defaultValue ty)) (hra : ∀ sg : List Nat, gRA sg a0 a0) (hn : ¬ n < 0) (hN : n.toNatClampNeg = N) (hby : N * componentBytes ty ≤ 536870912) (hR : match X with | ((_, _, _, R, _, _, _, _), _) => kc + 1 ≤ R.cells ∧ ks + N ≤ R.slots) (hd : decode M.2.1 pc = .ok (.newarray atype, 2)) (k : GW X M (pc + 2) L (.ref (h.length + 1) :: S) (h ++ [.inl (ty, N, a0)]) (kc + 1) (ks + N)) : GW X M pc L (.int n :: S) h kc ks := by
  obtain ⟨⟨p, l, e, R, s, m, args, below⟩, ⟨meth, c, D, b, A, s0, Z⟩⟩ := X
  obtain ⟨hx, hb, hml, hown, hts, hN0, hK, hA⟩ := C
  intro ws H locs ls S' ⟨hP, hD, hS, hRH, hpre, hL, hSt⟩
  obtain ⟨S1, rfl, hSt1⟩ := gRS_int hSt
  refine va_newa hx hb (hts _ hc) hty hK hP hD hS hA (a0 := (N, a0)) ha hn hN hby hR.1 hR.2 hd (fun q cA H1 hK1 hP1 hD1 hS1 => ?_)
  obtain ⟨L', hl, hLP⟩ := hL
  have hq := hK1.2 0 (cA, ty) rfl
  have es : b :: (ws ++ [(q, (Sum.inl (cA, N, a0) : va_E))]).map Prod.fst = (b :: ws.map Prod.fst) ++ [q] := by simp
  refine k _ H1 locs ls _ ⟨hP1, hD1, hS1, gRH_push hRH ⟨cA, a0, rfl, hq.1, hq.2, hra _⟩, ?_, ⟨L', hl, ?_⟩, ⟨q, ?_, rfl⟩, ?_⟩
  · rw [List.map_append]; exact hpre.trans (List.prefix_append _ _)
  · rw [es]; exact gRP_mono hLP
  · rw [es, List.getElem?_append_right (by simp [hRH.1])]; simp [hRH.1]
  · rw [es]; exact gRS_mono hSt1
theorem gw_newref (C : gC X M) {Cn : String} {index : Nat} {n : Int32} {N : Nat} (hc : Cond.classLink M.1.cls index Cn ∈ gT) (hCn : Cn = "SwingDesk$Sheet") (hn : ¬ n < 0) (hN : n.toNatClampNeg = N) (hby : N * 4 ≤ 536870912) (hR : match X with | ((_, _, _, R, _, _, _, _), _) => kc + 1 ≤ R.cells ∧ ks + N ≤ R.slots) (hd : decode M.2.1 pc = .ok (.anewarray index, 3)) (k : GW X M (pc + 3) L (.ref (h.length + 1) :: S) (h ++ [.inl (.object Cn, N, .inr (.inr (.inr (.inr (fun _ => none)))))]) (kc + 1) (ks + N)) : GW X M pc L (.int n :: S) h kc ks := by
  obtain ⟨⟨p, l, e, R, s, m, args, below⟩, ⟨meth, c, D, b, A, s0, Z⟩⟩ := X
  obtain ⟨hx, hb, hml, hown, hts, hN0, hK, hA⟩ := C
  intro ws H locs ls S' ⟨hP, hD, hS, hRH, hpre, hL, hSt⟩
  obtain ⟨S1, rfl, hSt1⟩ := gRS_int hSt
  refine va_newq hx hb hown (hts _ hc) (by rw [hCn]; exact hN0.2) hK hP hD hS hA hn hN hby hR.1 hR.2 hd (fun q cA H1 hK1 hP1 hD1 hS1 => ?_)
  obtain ⟨L', hl, hLP⟩ := hL
  have hq := hK1.2 0 (cA, .object Cn) rfl
  have es : b :: (ws ++ [(q, (Sum.inl (cA, N, .inr (.inr (.inr (.inr (fun _ => none))))) : va_E))]).map Prod.fst = (b :: ws.map Prod.fst) ++ [q] := by simp
  refine k _ H1 locs ls _ ⟨hP1, hD1, hS1, gRH_push hRH ⟨cA, _, rfl, hq.1, hq.2, _, rfl, fun i => rfl⟩, ?_, ⟨L', hl, ?_⟩, ⟨q, ?_, rfl⟩, ?_⟩
  · rw [List.map_append]; exact hpre.trans (List.prefix_append _ _)
  · rw [es]; exact gRP_mono hLP
  · rw [es, List.getElem?_append_right (by simp [hRH.1])]; simp [hRH.1]
  · rw [es]; exact gRS_mono hSt1
theorem gw_new (C : gC X M) {index ci N : Nat} {Cn : String} {T : u_T} {fs : List Value} (hc : gcl[ci]? = some (Cn, T, N)) (hin : ∀ w ∈ u_ws Cn T N, w ∈ gT) (ty : Nat → FieldType) (hty : ∀ k, k < N → parseFieldDescriptor (T k).2.2.1 = some (ty k)) (hcl : Cond.classLink M.1.cls index Cn ∈ gT) (hins : Cond.instantiable Cn N ∈ gT) (hini : Cond.initialized Cn ∈ gT) (hfs : ∀ j, j < N → defaultValue (ty j) = vp_V fs j) (hrs : ∀ sg : List Nat, gRS sg fs fs) (hR : match X with | ((_, _, _, R, _, _, _, _), _) => kc + 1 ≤ R.cells ∧ ks + N ≤ R.slots) (hd : decode M.2.1 pc = .ok (.new index, 3)) (k : GW X M (pc + 3) L (.ref (h.length + 1) :: S) (h ++ [.inr (ci, fs)]) (kc + 1) (ks + N)) : GW X M pc L S h kc ks := by
  obtain ⟨⟨p, l, e, R, s, m, args, below⟩, ⟨meth, c, D, b, A, s0, Z⟩⟩ := X
  obtain ⟨hx, hb, hml, hown, hts, hN0, hK, hA⟩ := C
  intro ws H locs ls S' ⟨hP, hD, hS, hRH, hpre, hL, hSt⟩
  refine va_new hx hb hts hin ty hty hown (hts _ hcl) (hts _ hins) (hts _ hini) hK hP hD hS hA hc hfs hR.1 hR.2 hd (fun q H1 hP1 hD1 hS1 => ?_)
  obtain ⟨L', hl, hLP⟩ := hL
  have es : b :: (ws ++ [(q, (Sum.inr (ci, fs) : va_E))]).map Prod.fst = (b :: ws.map Prod.fst) ++ [q] := by simp
  refine k _ H1 locs ls _ ⟨hP1, hD1, hS1, gRH_push hRH ⟨_, rfl, hrs _⟩, ?_, ⟨L', hl, ?_⟩, ⟨q, ?_, rfl⟩, ?_⟩
  · rw [List.map_append]; exact hpre.trans (List.prefix_append _ _)
  · rw [es]; exact gRP_mono hLP
  · rw [es, List.getElem?_append_right (by simp [hRH.1])]; simp [hRH.1]
  · rw [es]; exact gRS_mono hSt
/-- Object's constructor -/
theorem gw_objInit (C : gC X M) {q index : Nat} (hl : Cond.methodLink M.1.cls index Lib.objectInit ∈ gT) (hi : Cond.instanceMethod Lib.objectInit ∈ gT) (hcd : Cond.code Lib.objectInit ⟨#[0xb1]⟩ 1 none ∈ gT) (hsum : (S.map fun v => v.category).sum ≤ 8) (hR : match X with | ((_, _, _, R, _, _, _, _), _) => 1 ≤ R.frames ∧ 20 ≤ R.locals) (hd : decode M.2.1 pc = .ok (.invokespecial index, 3)) (k : GW X M (pc + 3) L S h kc ks) : GW X M pc L (.ref q :: S) h kc ks := by
  obtain ⟨⟨p, l, e, R, s, m, args, below⟩, ⟨meth, c, D, b, A, s0, Z⟩⟩ := X
  obtain ⟨hx, hb, hml, hown, hts, hN0, hK, hA⟩ := C
  intro ws H locs ls S' ⟨hP, hD, hS, hRH, hpre, hL, hSt⟩
  obtain ⟨a, S1, ha, rfl, hSt1⟩ := gRS_ref hSt
  obtain ⟨L', hl1, hLP⟩ := hL
  have hcat := gRS_cat hSt1
  refine W.objInit hx hb hown (hts _ hl) (hts _ hi) (hts _ hcd) rfl (by rw [hml]; exact hl1.1) rfl hd hR.1 ?_ ?_
  · have hr := hR.2
    have := lv_room (m := m) (pc := pc) (ls := ls) (rest := S1) (st := S1) (by rw [hcat]; exact hsum)
    show 2 * (F0 m pc ls (Value.ref a :: S1)).monitorRoom + _ + 12 ≤ R.locals
    have e1 : (F0 m pc ls (Value.ref a :: S1)).monitorRoom = (F0 m pc ls S1).monitorRoom := rfl
    rw [e1]
    omega
  · exact k ws H locs ls _ ⟨hP, hD, hS, hRH, hpre, ⟨L', hl1, hLP⟩, hSt1⟩
/-- behind a call -/
theorem gcall_on {p : Program} {l : Launch} {e : Env} {R : Room} {s : State} {m : MethodId} {args : Array Value} {below : List Frame} {meth : Method} {c : Code} {D : va_G} {b : Nat} {A : Nat → Prop} {s0 : List Nat} {Z : State → Prop} {ws : va_W} {H : Heap} {locs : List Loc} {ls : Array Slot} {mc ms : Nat} {st0 rest : List Value} {a : Array Value} {Q : Option Value → gAH → Prop} {L' : List (Nat × Value)}
    (hr : va_Run p l e R s m args below meth c H locs kc ks mc ms (F0 m pc ls st0) rest (gQC D b (ws.map Prod.fst) (va_A ws H.size) Q a) (va_A ws H.size)) (hD : va_D A ws) (hS : va_S A s.heap H locs) (hA : ∀ q : Nat, s.heap.size ≤ q → A q) (hpre : s0 <+: ws.map Prod.fst) (hl : lv_has ls M.2.2.1 L') (hLP : gRP (b :: ws.map Prod.fst) L L') (hSt : gRS (b :: ws.map Prod.fst) S rest)
    (k : ∀ r h', Q r h' → GW ((p, l, e, R, s, m, args, below), (meth, c, D, b, A, s0, Z)) M (pc + 3) L (r.toList ++ S) h' (kc + mc) (ks + ms)) : W p l e R s m args below meth c H locs kc ks Z (F0 m pc ls st0) := by
  have hf : ∀ q, va_A ws H.size q → A q := by
    intro q hq
    rcases hq with ⟨j, e1, hj⟩ | hq
    · exact hD.2 j _ hj
    · exact hA q (Nat.le_trans hS.1 hq)
  intro T hT X
  obtain ⟨v, st₀, t, T', L1, h0, X', hL1, e1, e2, ⟨⟨v0, v', h', ws', hv, hq, hrov, hP', hK', hD', hRH', hpre'⟩, hz, hk⟩, st⟩ := hr T hT X
  cases hv
  rw [h0] at hz hk
  have hal : s.vm.Alike t.vm := by rw [← e2]; exact X'.warmed.alike
  obtain ⟨tt, htt⟩ := gpre (b := b) hpre'
  have hG := k v0 h' hq
  have hw := hG ws' T'.heap (locs ++ L1) ls (v.toList ++ rest) ⟨by rw [e1]; exact hP', hD'.weaken (fun _ q _ z => hf q.1 z), ⟨Nat.le_trans hS.1 (by rw [e1]; exact hz), fun q h1 h2 => by rw [e1, hk q (Nat.lt_of_lt_of_le h1 hS.1) (fun z => h2 (hf q z))]; exact hS.2.1 q h1 h2, fun q hq => by
      rcases List.mem_append.mp hq with h | h
      · exact hS.2.2 q h
      · exact hf _ (hL1 q h)⟩, gRH_moved hal.symm hRH', hpre.trans hpre', ⟨L', hl, by rw [htt]; exact gRP_mono hLP⟩, gRS_app (by
        cases v0 with
        | none => cases hrov; exact trivial
        | some w => obtain ⟨w', rfl, hw⟩ := hrov; exact ⟨hw, trivial⟩) (by rw [htt]; exact gRS_mono hSt)⟩
  obtain ⟨t2, a1, b1⟩ := hw T' rfl X'
  exact ⟨t2, st t2 a1, b1⟩
theorem gblind {D : va_G} {b : Nat} {h : gAH} {ws : va_W} {sz : Nat} {av : List Value} : FrameBlind (va_Pc av (gB D b h ws sz)) := by
  intro a U g mk q
  obtain ⟨q0, q1, qP, qK, qD, qH, qN⟩ := q
  exact ⟨q0, q1, qP, va_K.moved (u := U) (U := U.calling g mk a) (Vm.Alike.refl U.vm) qK, qD, gRH_moved (u := U) (U := U.calling g mk a) (Vm.Alike.refl U.vm) qH, gN_same (s := U) (U := U.calling g mk a) rfl qN⟩
theorem gpreS {s : State} {H : Heap} {D : va_G} {b : Nat} {h : gAH} {ws : va_W} {av : List Value} {A : Nat → Prop} (hP : va_P D gcl ws H) (hD : va_D A ws) (hK : va_K D gcl [] s) (hRH : gRH s (b :: ws.map Prod.fst) h ws) (hN : gN s) : ∀ U : State, U.heap = H → s.WarmedH U.vm → va_Pc av (gB D b h ws H.size) av.toArray U :=
  fun U hU hW => ⟨rfl, by rw [hU], by rw [hU]; exact hP, va_K.moved hW.alike hK, hD.weaken (fun _ _ _ _ => trivial), gRH_moved hW.alike hRH, gN_warm hW hN⟩
/-- the words of a method's calls: its code among the tables, and plain -/
def gOk (N : gMd) (n : Nat) : Prop := Cond.code N.1 N.2.1 N.2.2.1 N.2.2.2.1 ∈ gT ∧ (N.1.cls ≠ "java/lang/invoke/MethodHandle" ∧ N.1.cls ≠ "java/lang/invoke/VarHandle" ∧ (parseMethodDescriptor N.1.desc).map (fun d => d.parameters.length) = some n) ∧ N.2.2.1 ≤ 21
theorem gT_good : ∀ w ∈ gT, w ∈ gT ∧ ((w.onTables && w.keeps) = true ∨ ∃ ty, w = .arrayClass ty) := fun w hw => ⟨hw, good_of_word (List.mem_filter.mp hw).2⟩
theorem gWs_good {N : gMd} {n : Nat} (hN : gOk N n) : GoodIn gT (gWs N) := by
  intro w hw
  rcases List.mem_cons.mp hw with rfl | hw
  · exact gT_good _ hN.1
  · exact gT_good w hw
/-- a room that holds the callee's -/
def gFit (R : Room) (d : Nat) (kc ks : Nat) (N : gMd) : Prop := d + 1 ≤ R.frames ∧ 40 * d + 40 ≤ R.locals ∧ kc + N.2.2.2.2.1 ≤ R.cells ∧ ks + N.2.2.2.2.2 ≤ R.slots
theorem gFitD {d kc ks : Nat} {M N : gMd} (h1 : kc + N.2.2.2.2.1 ≤ M.2.2.2.2.1) (h2 : ks + N.2.2.2.2.2 ≤ M.2.2.2.2.2) : gFit (gRm (d + 1) M) d kc ks N := ⟨Nat.le_refl _, by show 40 * d + 40 ≤ 40 * (d + 1); omega, h1, h2⟩
theorem gw_callV (C : gC X M) {d n index q ci Nf : Nat} {Cn : String} {T : u_T} {fs av : List Value} (N : gMd) {Q : Option Value → gAH → Prop} (hN : gOk N n) (hav : av.length = n) (hq : h[q]? = some (.inr (ci, fs))) (hc : gcl[ci]? = some (Cn, T, Nf)) (hy : N.1.cls = Cn) (hl : Cond.methodLink M.1.cls index N.1 ∈ gT) (hi : Cond.instanceMethod N.1 ∈ gT) (hse : Cond.selects Cn N.1 N.1 ∈ gT) (hini : Cond.initialized Cn ∈ gT) (hsum : (S.map fun v => v.category).sum ≤ 8) (hF : match X with | ((_, _, _, R, _, _, _, _), _) => gFit R d kc ks N) (hd : decode M.2.1 pc = .ok (.invokevirtual index, 3)) (hM : match X with | (_, (_, _, D, _)) => AM D d N (.ref (q + 1) :: av) h Q) (k : ∀ r h', Q r h' → GW X M (pc + 3) L (r.toList ++ S) h' (kc + N.2.2.2.2.1) (ks + N.2.2.2.2.2)) : GW X M pc L (av.reverse ++ .ref (q + 1) :: S) h kc ks := by
  obtain ⟨⟨p, l, e, R, s, m, args, below⟩, ⟨meth, c, D, b, A, s0, Z⟩⟩ := X
  obtain ⟨hx, hb, hml, hown, hts, hN0, hK, hA⟩ := C
  intro ws H locs ls S' ⟨hP, hD, hS, hRH, hpre, ⟨L', hl1, hLP⟩, hSt⟩
  obtain ⟨Sa, Sb, rfl, hSa, hSb⟩ := gRS_split hSt
  obtain ⟨a, S1, ha, rfl, hSt1⟩ := gRS_ref hSb
  obtain ⟨e', he, fs', rfl, hfs⟩ := gRH_at hRH hq ha
  have hra := gRS_rev hSa
  rw [List.reverse_reverse] at hra
  have hcat := gRS_cat hSt1
  refine gcall_on (M := M) (L := L) (S := S) (va_runV (n := n) (As := Sa.reverse) (rest := S1) (b := a) ⟨hx, hb, hml, hown, hts⟩ (hM l b ws H.size (.ref a :: Sa.reverse) ⟨⟨a, ha, rfl⟩, hra⟩) ⟨⟨rfl, rfl, hF.1, ?_, pay_in hts (gWs_good hN), List.mem_cons_self, hts _ hN.1, by rw [hy]; exact hts _ hini, ⟨hN.2.1.1, hN.2.1.2.1⟩, ?_, hts _ hl⟩, hts _ hi, hts _ hse⟩ ⟨gblind, va_recv hK hP hc he, gpreS hP hD hK hRH hN0⟩ rfl (by rw [List.length_reverse, gRS_len hSa, List.length_reverse]; exact hav) hl1.1 (by rw [List.reverse_reverse]) (lv_room (by rw [hcat]; exact hsum)) hd hF.2.2) hD hS hA hpre hl1 hLP hSt1 k
  · have h1 := hF.2.1
    have h2 := hN.2.2
    show 8 + (N.2.2.1 + 11) + 40 * d ≤ R.locals
    omega
  · intro sig hsig
    have h2 := hN.2.1.2.2
    rw [hsig] at h2
    exact (Option.some.inj h2).symm
theorem gw_callS (C : gC X M) {d n index : Nat} {av : List Value} (N : gMd) {Q : Option Value → gAH → Prop} (hN : gOk N n) (hav : av.length = n) (hl : Cond.methodLink M.1.cls index N.1 ∈ gT) (hst : Cond.static N.1 ∈ gT) (hini : Cond.initialized N.1.cls ∈ gT) (hsum : (S.map fun v => v.category).sum ≤ 8) (hF : match X with | ((_, _, _, R, _, _, _, _), _) => gFit R d kc ks N) (hd : decode M.2.1 pc = .ok (.invokestatic index, 3)) (hM : match X with | (_, (_, _, D, _)) => AM D d N av h Q) (k : ∀ r h', Q r h' → GW X M (pc + 3) L (r.toList ++ S) h' (kc + N.2.2.2.2.1) (ks + N.2.2.2.2.2)) : GW X M pc L (av.reverse ++ S) h kc ks := by
  obtain ⟨⟨p, l, e, R, s, m, args, below⟩, ⟨meth, c, D, b, A, s0, Z⟩⟩ := X
  obtain ⟨hx, hb, hml, hown, hts, hN0, hK, hA⟩ := C
  intro ws H locs ls S' ⟨hP, hD, hS, hRH, hpre, ⟨L', hl1, hLP⟩, hSt⟩
  obtain ⟨Sa, S1, rfl, hSa, hSt1⟩ := gRS_split hSt
  have hra := gRS_rev hSa
  rw [List.reverse_reverse] at hra
  have hcat := gRS_cat hSt1
  refine gcall_on (M := M) (L := L) (S := S) (va_runS (n := n) (As := Sa.reverse) (rest := S1) ⟨hx, hb, hml, hown, hts⟩ (hM l b ws H.size Sa.reverse hra) ⟨⟨rfl, rfl, hF.1, ?_, pay_in hts (gWs_good hN), List.mem_cons_self, hts _ hN.1, hts _ hini, ⟨hN.2.1.1, hN.2.1.2.1⟩, ?_, hts _ hl⟩, hts _ hst⟩ ⟨gblind, gpreS hP hD hK hRH hN0⟩ rfl (by rw [List.length_reverse, gRS_len hSa, List.length_reverse]; exact hav) hl1.1 (by rw [List.reverse_reverse]) (lv_room (by rw [hcat]; exact hsum)) hd hF.2.2) hD hS hA hpre hl1 hLP hSt1 k
  · have h1 := hF.2.1
    have h2 := hN.2.2
    show 8 + (N.2.2.1 + 11) + 40 * d ≤ R.locals
    omega
  · intro sig hsig
    have h2 := hN.2.1.2.2
    rw [hsig] at h2
    exact (Option.some.inj h2).symm
theorem gw_callN (C : gC X M) {d n index : Nat} {host : String} {av : List Value} (N : gMd) {Q : Option Value → gAH → Prop} (hN : gOk N n) (hav : av.length = n) (hl : Cond.methodLinkNest M.1.cls index N.1 host ∈ gNest) (hst : Cond.static N.1 ∈ gT) (hini : Cond.initialized N.1.cls ∈ gT) (hsum : (S.map fun v => v.category).sum ≤ 8) (hF : match X with | ((_, _, _, R, _, _, _, _), _) => gFit R d kc ks N) (hd : decode M.2.1 pc = .ok (.invokestatic index, 3)) (hM : match X with | (_, (_, _, D, _)) => AM D d N av h Q) (k : ∀ r h', Q r h' → GW X M (pc + 3) L (r.toList ++ S) h' (kc + N.2.2.2.2.1) (ks + N.2.2.2.2.2)) : GW X M pc L (av.reverse ++ S) h kc ks := by
  obtain ⟨⟨p, l, e, R, s, m, args, below⟩, ⟨meth, c, D, b, A, s0, Z⟩⟩ := X
  obtain ⟨hx, hb, hml, hown, hts, hN0, hK, hA⟩ := C
  intro ws H locs ls S' ⟨hP, hD, hS, hRH, hpre, ⟨L', hl1, hLP⟩, hSt⟩
  obtain ⟨Sa, S1, rfl, hSa, hSt1⟩ := gRS_split hSt
  have hra := gRS_rev hSa
  rw [List.reverse_reverse] at hra
  have hcat := gRS_cat hSt1
  refine gcall_on (M := M) (L := L) (S := S) (va_runSN (n := n) (As := Sa.reverse) (rest := S1) (host := host) ⟨hx, hb, hml, hown, hts⟩ (hM l b ws H.size Sa.reverse hra) ⟨⟨⟨rfl, rfl, hF.1, ?_, pay_in hts (gWs_good hN), List.mem_cons_self⟩, hts _ hN.1, hts _ hini, ⟨hN.2.1.1, hN.2.1.2.1⟩, ?_, va_Nw.use rfl (hN0.1 _ hl)⟩, hts _ hst, trivial⟩ ⟨gblind, gpreS hP hD hK hRH hN0⟩ rfl (by rw [List.length_reverse, gRS_len hSa, List.length_reverse]; exact hav) hl1.1 (by rw [List.reverse_reverse]) (lv_room (by rw [hcat]; exact hsum)) hd hF.2.2) hD hS hA hpre hl1 hLP hSt1 k
  · have h1 := hF.2.1
    have h2 := hN.2.2
    show 8 + (N.2.2.1 + 11) + 40 * d ≤ R.locals
    omega
  · intro sig hsig
    have h2 := hN.2.1.2.2
    rw [hsig] at h2
    exact (Option.some.inj h2).symm
theorem gw_callI (C : gC X M) {d n index q : Nat} {av : List Value} (N : gMd) {Q : Option Value → gAH → Prop} (hN : gOk N n) (hrt : N.2.2.2.1 = none) (hav : av.length = n) (hl : Cond.methodLink M.1.cls index N.1 ∈ gT) (hi : Cond.instanceMethod N.1 ∈ gT) (hnm : N.1.name = "<init>") (hini : Cond.initialized N.1.cls ∈ gT) (hsum : (S.map fun v => v.category).sum ≤ 8) (hF : match X with | ((_, _, _, R, _, _, _, _), _) => gFit R d kc ks N) (hd : decode M.2.1 pc = .ok (.invokespecial index, 3)) (hM : match X with | (_, (_, _, D, _)) => AM D d N (.ref q :: av) h Q) (k : ∀ r h', Q r h' → GW X M (pc + 3) L (r.toList ++ S) h' (kc + N.2.2.2.2.1) (ks + N.2.2.2.2.2)) : GW X M pc L (av.reverse ++ .ref q :: S) h kc ks := by
  obtain ⟨⟨p, l, e, R, s, m, args, below⟩, ⟨meth, c, D, b, A, s0, Z⟩⟩ := X
  obtain ⟨hx, hb, hml, hown, hts, hN0, hK, hA⟩ := C
  intro ws H locs ls S' ⟨hP, hD, hS, hRH, hpre, ⟨L', hl1, hLP⟩, hSt⟩
  obtain ⟨Sa, Sb, rfl, hSa, hSb⟩ := gRS_split hSt
  obtain ⟨a, S1, ha, rfl, hSt1⟩ := gRS_ref hSb
  have hra := gRS_rev hSa
  rw [List.reverse_reverse] at hra
  have hcat := gRS_cat hSt1
  have hcd := hN.1
  have hgw := gWs_good hN
  obtain ⟨ny, nb, nl, nr, nc, ns⟩ := N
  dsimp only at hrt
  subst hrt
  refine gcall_on (M := M) (L := L) (S := S) (va_runI (n := n) (As := Sa.reverse) (rest := S1) (b := a) ⟨hx, hb, hml, hown, hts⟩ (hM l b ws H.size (.ref a :: Sa.reverse) ⟨⟨a, ha, rfl⟩, hra⟩) ⟨⟨rfl, rfl, hF.1, ?_, pay_in hts hgw, List.mem_cons_self, hts _ hcd, hts _ hini, ⟨hN.2.1.1, hN.2.1.2.1⟩, ?_, hts _ hl⟩, hnm, hts _ hi⟩ ⟨gblind, gpreS hP hD hK hRH hN0⟩ rfl (by rw [List.length_reverse, gRS_len hSa, List.length_reverse]; exact hav) hl1.1 (by rw [List.reverse_reverse]) (lv_room (by rw [hcat]; exact hsum)) hd hF.2.2) hD hS hA hpre hl1 hLP hSt1 k
  · have h1 := hF.2.1
    have h2 := hN.2.2
    show 8 + (nl + 11) + 40 * d ≤ R.locals
    dsimp only at h2
    omega
  · intro sig hsig
    have h2 := hN.2.1.2.2
    dsimp only at h2
    rw [hsig] at h2
    exact (Option.some.inj h2).symm
end GCALLS
