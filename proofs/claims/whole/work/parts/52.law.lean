/-! THE LAW -/
/-! THE CLAIM OUT OF ONE WALK OF THE LAW'S BODY. Your part is whole_start (and what it stands on); all else here is the same for every law, but numbers. -/
def R_law : String := "SwingDeskLaw"
def lw_P (b : Addr) (xs : List Int32) (args : Array Value) (s : State) : Prop := args = #[.ref b] ∧ s.IntsAt b xs ∧ xs.length ≤ 3072 ∧ (Jvm.Cond.and given_1 narrow_1).before args s = true
def lw_Q (_ : Array Value) (s : State) (o : Outcome) (t : State) : Prop := o = .returned (some (.int 1)) ∧ Framed s o t [] 600000 7302250
def lw_Z (below : List Frame) (a : Array Value) (s : State) : State → Prop := fun t => ∃ o, t.status = .running ∧ Ended t below o ∧ lw_Q a s o t
/-- the law's own end, with 1 on the stack, nothing written that was there before, its room as the claim has it -/
theorem lw_ret {p : Program} {l : Launch} {e : Env} {s : State} {m : MethodId} {below : List Frame} {meth : Method} {c : Code} {b : Nat} (hx : p.tables.exec = Jvm.exec) (hb : c.code = code) (hr : meth.sig.returnType = ret) (hlocks : meth.locks = false) {pc : Nat} {H : Heap} {ls : Array Slot} (hdg : decode code pc = .ok (.ireturn, 1)) : W p l e room_1 s m #[Value.ref b] below meth c H [] 600000 7302250 (lw_Z below #[Value.ref b] s) (F0 m pc ls [.int 1]) := by
  intro T hT X
  obtain ⟨fs, hret, hrun, hended, hW, hframe⟩ := X.leave (v := some (.int 1)) (hlocks := hlocks) (fun h => by rw [hr] at h; cases h)
  have hmeth' : T.vm.method? m = some meth := X.method'
  refine ⟨T.setFrames fs, ?_, .returned (some (.int 1)), hrun, hended, rfl, ⟨_, rfl⟩, hW, hframe⟩
  jvm_step X.here [X.here.top, hx, hb, hdg, hmeth', hr, ret, narrow_b1]
  (try refine ⟨rfl, ?_⟩); (try refine ⟨rfl, ?_⟩)
  first | (intro acts; rw [hret _ acts rfl rfl rfl]) | rw [hret _ _ rfl rfl rfl]
  exact Steps.refl _
/-- what holds at the law's entry: the machine, the code, the tables' words (any of lw_tbl by 'hts w (by decide +kernel)'), the script of L ints xs at the cell b, what the Statement gives of the start (any of its parts by flat_of_before) -/
def lw_At (p : Program) (s : State) (m : MethodId) (meth : Method) (c : Code) (b L : Nat) (xs : Nat → Int32) : Prop :=
  p.tables.exec = Jvm.exec ∧ c.code = code ∧ meth.sig.returnType = ret ∧ c.maxLocals = 4 ∧ s.vm.findClass R_law = some m.cls ∧ (∀ w ∈ lw_tbl, w.before #[Value.ref b] s = true) ∧ va_X b L xs s s.heap ∧ b < s.heap.size ∧ meth.locks = false ∧ (Jvm.Cond.and given_1 narrow_1).before #[Value.ref b] s = true
/-- what the law stands in -/
def gLX (D : va_G) (N : Nat) (xs : Nat → Int32) (X : gCx) : Prop := gC X nLaw_law ∧ match X with
  | ((p, l, e, R, s, m, args, below), (meth, c, D', b, A, s0, Z)) => D' = D ∧ R = room_1 ∧ meth.sig.returnType = ret ∧ meth.locks = false ∧ va_X b N xs s s.heap ∧ b < s.heap.size ∧ A = (fun q : Nat => s.heap.size ≤ q) ∧ args = #[Value.ref b] ∧ Z = lw_Z below #[Value.ref b] s
section GLAW
variable {X : gCx} {pc : Nat} {L : List (Nat × Value)} {S : List Value} {h : gAH} {kc ks : Nat} {D : va_G} {N : Nat} {xs : Nat → Int32}
theorem gl_sld (CX : gLX D N xs X) {i : Int32} (hin : vp_in i N) (hd : decode nLaw_law.2.1 pc = .ok (.iaload, 1)) (k : GW X nLaw_law (pc + 1) L (.int (xs i.toNatClampNeg) :: S) h kc ks) : GW X nLaw_law pc L (.int i :: .ref 0 :: S) h kc ks := by
  obtain ⟨⟨p, l, e, R, s, m, args, below⟩, ⟨meth, c, D', b, A, s0, Z⟩⟩ := X
  obtain ⟨⟨hx, hb, hml, hown, hts, hN, hK, hA⟩, hD0, hR, hret, hlocks, hX, hbl, hAe, hargs, hZ⟩ := CX
  intro ws H locs ls S' ⟨hP, hD, hS, hRH, hpre, hL, hSt⟩
  obtain ⟨S1, rfl, hSt1⟩ := gRS_int hSt
  obtain ⟨a, S2, ha, rfl, hSt2⟩ := gRS_ref hSt1
  cases ha
  exact va_sld hx hb hX hbl (by rw [hAe]; exact Nat.not_le.mpr hbl) hS hin hd (k ws H locs ls _ ⟨hP, hD, hS, hRH, hpre, hL, rfl, hSt2⟩)
theorem gl_slen (CX : gLX D N xs X) (hd : decode nLaw_law.2.1 pc = .ok (.arraylength, 1)) (k : GW X nLaw_law (pc + 1) L (.int (nI N) :: S) h kc ks) : GW X nLaw_law pc L (.ref 0 :: S) h kc ks := by
  obtain ⟨⟨p, l, e, R, s, m, args, below⟩, ⟨meth, c, D', b, A, s0, Z⟩⟩ := X
  obtain ⟨⟨hx, hb, hml, hown, hts, hN, hK, hA⟩, hD0, hR, hret, hlocks, hX, hbl, hAe, hargs, hZ⟩ := CX
  intro ws H locs ls S' ⟨hP, hD, hS, hRH, hpre, hL, hSt⟩
  obtain ⟨a, S2, ha, rfl, hSt2⟩ := gRS_ref hSt
  cases ha
  exact va_slen hx hb hX hbl (by rw [hAe]; exact Nat.not_le.mpr hbl) hS hd (k ws H locs ls _ ⟨hP, hD, hS, hRH, hpre, hL, rfl, hSt2⟩)
theorem gl_ret (CX : gLX D N xs X) (hkc : kc ≤ 600000) (hks : ks ≤ 7302250) (hd : decode nLaw_law.2.1 pc = .ok (.ireturn, 1)) : GW X nLaw_law pc L [.int 1] h kc ks := by
  obtain ⟨⟨p, l, e, R, s, m, args, below⟩, ⟨meth, c, D', b, A, s0, Z⟩⟩ := X
  obtain ⟨⟨hx, hb, hml, hown, hts, hN, hK, hA⟩, hD0, hR, hret, hlocks, hX, hbl, hAe, hargs, hZ⟩ := CX
  subst hR
  subst hargs
  subst hZ
  intro ws H locs ls S' ⟨hP, hD, hS, hRH, hpre, hL, hSt⟩
  obtain ⟨S1, rfl, hSt1⟩ := gRS_int hSt
  cases gRS_nil hSt1
  refine va_forget (fun q hq => ?_) ?_
  · have := hS.2.2 q hq
    rw [hAe] at this
    exact this
  refine W.widen (k := 600000) (n := 7302250) hkc hks ?_
  exact lw_ret hx hb hret hlocks hd
theorem gLX_room (CX : gLX D N xs X) {n : Nat} (h1 : kc + 1 ≤ 600000) (h2 : ks + n ≤ 7302250) : match X with | ((_, _, _, R, _, _, _, _), _) => kc + 1 ≤ R.cells ∧ ks + n ≤ R.slots := by
  obtain ⟨⟨p, l, e, R, s, m, args, below⟩, ⟨meth, c, D', b, A, s0, Z⟩⟩ := X
  obtain ⟨C, hD0, hR, hret⟩ := CX
  subst hR
  exact ⟨h1, h2⟩
theorem gLX_fit (CX : gLX D N xs X) {M : gMd} (h1 : kc + M.2.2.2.2.1 ≤ 600000) (h2 : ks + M.2.2.2.2.2 ≤ 7302250) : match X with | ((_, _, _, R, _, _, _, _), _) => gFit R 30 kc ks M := by
  obtain ⟨⟨p, l, e, R, s, m, args, below⟩, ⟨meth, c, D', b, A, s0, Z⟩⟩ := X
  obtain ⟨C, hD0, hR, hret⟩ := CX
  subst hR
  exact ⟨by decide, by decide, h1, h2⟩
theorem gLX_am (CX : gLX D N xs X) {M : gMd} {d : Nat} {av : List Value} {h : gAH} {Q : Option Value → gAH → Prop} (hM : AM D d M av h Q) : match X with | (_, (_, _, D, _)) => AM D d M av h Q := by
  obtain ⟨⟨p, l, e, R, s, m, args, below⟩, ⟨meth, c, D', b, A, s0, Z⟩⟩ := X
  obtain ⟨C, hD0, hR, hret⟩ := CX
  subst hD0
  exact hM
theorem gl_call (CX : gLX D N xs X) {n index q ci Nf : Nat} {Cn : String} {T : u_T} {fs av : List Value} {F : gF} {G : Nat → Int64} (M : gMd) {Q : Int32 → gF → (Nat → Int64) → Prop} (hN : gOk M n) (hav : av.length = n) (hq : (mk F G)[q]? = some (.inr (ci, fs))) (hc : gcl[ci]? = some (Cn, T, Nf)) (hy : M.1.cls = Cn) (hi : Cond.instanceMethod M.1 ∈ gT) (hse : Cond.selects Cn M.1 M.1 ∈ gT) (hini : Cond.initialized Cn ∈ gT) (hsum : (S.map fun v => v.category).sum ≤ 8) (h0 : M.2.2.2.2 = (0, 0)) (hl : Cond.methodLink nLaw_law.1.cls index M.1 ∈ gT) (hd : decode nLaw_law.2.1 pc = .ok (.invokevirtual index, 3)) (hM : AMi D 30 M (.ref (q + 1) :: av) F G Q) (k : ∀ x F' G', Q x F' G' → GW X nLaw_law (pc + 3) L (.int x :: S) (mk F' G') 60 75283) : GW X nLaw_law pc L (av.reverse ++ .ref (q + 1) :: S) (mk F G) 60 75283 :=
  gw_callV (d := 30) CX.1 M hN hav hq hc hy hl hi hse hini hsum (gLX_fit CX (by rw [h0]; decide) (by rw [h0]; decide)) hd (gLX_am CX hM) (fun r h' ⟨x, F', G', e1, e2, hq⟩ => by subst e1; subst e2; rw [h0]; exact k x F' G' hq)
theorem lw_case_0 (CX : gLX D N xs X) {i : Nat} (hin : ∀ o : Nat, o < 6 → vp_in (nI i + nI o) N) {F : gF} {G : Nat → Int64} (hR : RI F) (k : ∀ F' G', RI F' → GW X nLaw_law 1010 [(3, .int (nI i)), (2, .ref 39), (1, .ref 1), (0, .ref 0)] [] (mk F' G') 60 75283) : GW X nLaw_law 152 [(3, .int (nI i)), (2, .ref 39), (1, .ref 1), (0, .ref 0)] [] (mk F G) 60 75283 := by
  refine gw_aload_n CX.1 2 rfl dLaw_law_152 rfl ?_
  refine gw_aload_n CX.1 3 rfl dLaw_law_153 rfl ?_
  refine gw_iload_n CX.1 0 rfl dLaw_law_154 rfl ?_
  refine gw_iconst (v := 1) CX.1 dLaw_law_155 (by decide) ?_
  refine gw_iadd CX.1 dLaw_law_156 ?_
  refine gl_sld CX (hin 1 (by decide)) dLaw_law_157 ?_
  refine gl_call (av := [.int (xs (nI i + 1).toNatClampNeg)]) (S := []) CX nDesk_track ok_Desk_track rfl mk_0 rfl rfl wi_Desk_track wse_Desk_track wini_Desk (Nat.le_of_ble_eq_true rfl) rfl wm_Law_13 dLaw_law_158 (st_track F G hR) (fun x F1 G1 H => ?_)
  refine gw_aload_n CX.1 1 rfl dLaw_law_161 rfl ?_
  refine gw_aload_n CX.1 3 rfl dLaw_law_162 rfl ?_
  refine gw_iload_n CX.1 0 rfl dLaw_law_163 rfl ?_
  refine gw_iconst (v := 1) CX.1 dLaw_law_164 (by decide) ?_
  refine gw_iadd CX.1 dLaw_law_165 ?_
  refine gl_sld CX (hin 1 (by decide)) dLaw_law_166 ?_
  refine gl_call (av := [.int (xs (nI i + 1).toNatClampNeg)]) (S := [.int x]) CX nModel_track ok_Model_track rfl mk_38 rfl rfl wi_Model_track wse_Model_track wini_Model (Nat.le_of_ble_eq_true rfl) rfl wm_Law_17 dLaw_law_167 H (fun y F2 G2 H2 => ?_)
  exact gw_icmp_eq (tgt := 1010) CX.1 dLaw_law_170 (by decide) (fun c => k F2 G2 H2.2) (fun c => absurd H2.1 c)
theorem lw_case_1 (CX : gLX D N xs X) {i : Nat} (hin : ∀ o : Nat, o < 6 → vp_in (nI i + nI o) N) {F : gF} {G : Nat → Int64} (hR : RI F) (k : ∀ F' G', RI F' → GW X nLaw_law 1010 [(3, .int (nI i)), (2, .ref 39), (1, .ref 1), (0, .ref 0)] [] (mk F' G') 60 75283) : GW X nLaw_law 175 [(3, .int (nI i)), (2, .ref 39), (1, .ref 1), (0, .ref 0)] [] (mk F G) 60 75283 := by
  refine gw_aload_n CX.1 2 rfl dLaw_law_175 rfl ?_
  refine gw_aload_n CX.1 3 rfl dLaw_law_176 rfl ?_
  refine gw_iload_n CX.1 0 rfl dLaw_law_177 rfl ?_
  refine gw_iconst (v := 1) CX.1 dLaw_law_178 (by decide) ?_
  refine gw_iadd CX.1 dLaw_law_179 ?_
  refine gl_sld CX (hin 1 (by decide)) dLaw_law_180 ?_
  refine gw_aload_n CX.1 3 rfl dLaw_law_181 rfl ?_
  refine gw_iload_n CX.1 0 rfl dLaw_law_182 rfl ?_
  refine gw_iconst (v := 2) CX.1 dLaw_law_183 (by decide) ?_
  refine gw_iadd CX.1 dLaw_law_184 ?_
  refine gl_sld CX (hin 2 (by decide)) dLaw_law_185 ?_
  refine gw_aload_n CX.1 3 rfl dLaw_law_186 rfl ?_
  refine gw_iload_n CX.1 0 rfl dLaw_law_187 rfl ?_
  refine gw_iconst (v := 3) CX.1 dLaw_law_188 (by decide) ?_
  refine gw_iadd CX.1 dLaw_law_189 ?_
  refine gl_sld CX (hin 3 (by decide)) dLaw_law_190 ?_
  refine gw_aload_n CX.1 3 rfl dLaw_law_191 rfl ?_
  refine gw_iload_n CX.1 0 rfl dLaw_law_192 rfl ?_
  refine gw_iconst (v := 4) CX.1 dLaw_law_193 (by decide) ?_
  refine gw_iadd CX.1 dLaw_law_194 ?_
  refine gl_sld CX (hin 4 (by decide)) dLaw_law_195 ?_
  refine gl_call (av := [.int (xs (nI i + 1).toNatClampNeg), .int (xs (nI i + 2).toNatClampNeg), .int (xs (nI i + 3).toNatClampNeg), .int (xs (nI i + 4).toNatClampNeg)]) (S := []) CX nDesk_in ok_Desk_in rfl mk_0 rfl rfl wi_Desk_in wse_Desk_in wini_Desk (Nat.le_of_ble_eq_true rfl) rfl wm_Law_18 dLaw_law_196 (st_in F G hR) (fun x F1 G1 H => ?_)
  refine gw_aload_n CX.1 1 rfl dLaw_law_199 rfl ?_
  refine gw_aload_n CX.1 3 rfl dLaw_law_200 rfl ?_
  refine gw_iload_n CX.1 0 rfl dLaw_law_201 rfl ?_
  refine gw_iconst (v := 1) CX.1 dLaw_law_202 (by decide) ?_
  refine gw_iadd CX.1 dLaw_law_203 ?_
  refine gl_sld CX (hin 1 (by decide)) dLaw_law_204 ?_
  refine gw_aload_n CX.1 3 rfl dLaw_law_205 rfl ?_
  refine gw_iload_n CX.1 0 rfl dLaw_law_206 rfl ?_
  refine gw_iconst (v := 2) CX.1 dLaw_law_207 (by decide) ?_
  refine gw_iadd CX.1 dLaw_law_208 ?_
  refine gl_sld CX (hin 2 (by decide)) dLaw_law_209 ?_
  refine gw_aload_n CX.1 3 rfl dLaw_law_210 rfl ?_
  refine gw_iload_n CX.1 0 rfl dLaw_law_211 rfl ?_
  refine gw_iconst (v := 3) CX.1 dLaw_law_212 (by decide) ?_
  refine gw_iadd CX.1 dLaw_law_213 ?_
  refine gl_sld CX (hin 3 (by decide)) dLaw_law_214 ?_
  refine gw_aload_n CX.1 3 rfl dLaw_law_215 rfl ?_
  refine gw_iload_n CX.1 0 rfl dLaw_law_216 rfl ?_
  refine gw_iconst (v := 4) CX.1 dLaw_law_217 (by decide) ?_
  refine gw_iadd CX.1 dLaw_law_218 ?_
  refine gl_sld CX (hin 4 (by decide)) dLaw_law_219 ?_
  refine gl_call (av := [.int (xs (nI i + 1).toNatClampNeg), .int (xs (nI i + 2).toNatClampNeg), .int (xs (nI i + 3).toNatClampNeg), .int (xs (nI i + 4).toNatClampNeg)]) (S := [.int x]) CX nModel_in ok_Model_in rfl mk_38 rfl rfl wi_Model_in wse_Model_in wini_Model (Nat.le_of_ble_eq_true rfl) rfl wm_Law_22 dLaw_law_220 H (fun y F2 G2 H2 => ?_)
  exact gw_icmp_eq (tgt := 1010) CX.1 dLaw_law_223 (by decide) (fun c => k F2 G2 H2.2) (fun c => absurd H2.1 c)
theorem lw_case_2 (CX : gLX D N xs X) {i : Nat} (hin : ∀ o : Nat, o < 6 → vp_in (nI i + nI o) N) {F : gF} {G : Nat → Int64} (hR : RI F) (k : ∀ F' G', RI F' → GW X nLaw_law 1010 [(3, .int (nI i)), (2, .ref 39), (1, .ref 1), (0, .ref 0)] [] (mk F' G') 60 75283) : GW X nLaw_law 228 [(3, .int (nI i)), (2, .ref 39), (1, .ref 1), (0, .ref 0)] [] (mk F G) 60 75283 := by
  refine gw_aload_n CX.1 2 rfl dLaw_law_228 rfl ?_
  refine gw_aload_n CX.1 3 rfl dLaw_law_229 rfl ?_
  refine gw_iload_n CX.1 0 rfl dLaw_law_230 rfl ?_
  refine gw_iconst (v := 1) CX.1 dLaw_law_231 (by decide) ?_
  refine gw_iadd CX.1 dLaw_law_232 ?_
  refine gl_sld CX (hin 1 (by decide)) dLaw_law_233 ?_
  refine gw_aload_n CX.1 3 rfl dLaw_law_234 rfl ?_
  refine gw_iload_n CX.1 0 rfl dLaw_law_235 rfl ?_
  refine gw_iconst (v := 2) CX.1 dLaw_law_236 (by decide) ?_
  refine gw_iadd CX.1 dLaw_law_237 ?_
  refine gl_sld CX (hin 2 (by decide)) dLaw_law_238 ?_
  refine gw_aload_n CX.1 3 rfl dLaw_law_239 rfl ?_
  refine gw_iload_n CX.1 0 rfl dLaw_law_240 rfl ?_
  refine gw_iconst (v := 3) CX.1 dLaw_law_241 (by decide) ?_
  refine gw_iadd CX.1 dLaw_law_242 ?_
  refine gl_sld CX (hin 3 (by decide)) dLaw_law_243 ?_
  refine gl_call (av := [.int (xs (nI i + 1).toNatClampNeg), .int (xs (nI i + 2).toNatClampNeg), .int (xs (nI i + 3).toNatClampNeg)]) (S := []) CX nDesk_lift ok_Desk_lift rfl mk_0 rfl rfl wi_Desk_lift wse_Desk_lift wini_Desk (Nat.le_of_ble_eq_true rfl) rfl wm_Law_23 dLaw_law_244 (st_lift F G hR) (fun x F1 G1 H => ?_)
  refine gw_aload_n CX.1 1 rfl dLaw_law_247 rfl ?_
  refine gw_aload_n CX.1 3 rfl dLaw_law_248 rfl ?_
  refine gw_iload_n CX.1 0 rfl dLaw_law_249 rfl ?_
  refine gw_iconst (v := 1) CX.1 dLaw_law_250 (by decide) ?_
  refine gw_iadd CX.1 dLaw_law_251 ?_
  refine gl_sld CX (hin 1 (by decide)) dLaw_law_252 ?_
  refine gw_aload_n CX.1 3 rfl dLaw_law_253 rfl ?_
  refine gw_iload_n CX.1 0 rfl dLaw_law_254 rfl ?_
  refine gw_iconst (v := 2) CX.1 dLaw_law_255 (by decide) ?_
  refine gw_iadd CX.1 dLaw_law_256 ?_
  refine gl_sld CX (hin 2 (by decide)) dLaw_law_257 ?_
  refine gw_aload_n CX.1 3 rfl dLaw_law_258 rfl ?_
  refine gw_iload_n CX.1 0 rfl dLaw_law_259 rfl ?_
  refine gw_iconst (v := 3) CX.1 dLaw_law_260 (by decide) ?_
  refine gw_iadd CX.1 dLaw_law_261 ?_
  refine gl_sld CX (hin 3 (by decide)) dLaw_law_262 ?_
  refine gl_call (av := [.int (xs (nI i + 1).toNatClampNeg), .int (xs (nI i + 2).toNatClampNeg), .int (xs (nI i + 3).toNatClampNeg)]) (S := [.int x]) CX nModel_lift ok_Model_lift rfl mk_38 rfl rfl wi_Model_lift wse_Model_lift wini_Model (Nat.le_of_ble_eq_true rfl) rfl wm_Law_27 dLaw_law_263 H (fun y F2 G2 H2 => ?_)
  exact gw_icmp_eq (tgt := 1010) CX.1 dLaw_law_266 (by decide) (fun c => k F2 G2 H2.2) (fun c => absurd H2.1 c)
theorem lw_case_3 (CX : gLX D N xs X) {i : Nat} (hin : ∀ o : Nat, o < 6 → vp_in (nI i + nI o) N) {F : gF} {G : Nat → Int64} (hR : RI F) (k : ∀ F' G', RI F' → GW X nLaw_law 1010 [(3, .int (nI i)), (2, .ref 39), (1, .ref 1), (0, .ref 0)] [] (mk F' G') 60 75283) : GW X nLaw_law 271 [(3, .int (nI i)), (2, .ref 39), (1, .ref 1), (0, .ref 0)] [] (mk F G) 60 75283 := by
  refine gw_aload_n CX.1 2 rfl dLaw_law_271 rfl ?_
  refine gw_aload_n CX.1 3 rfl dLaw_law_272 rfl ?_
  refine gw_iload_n CX.1 0 rfl dLaw_law_273 rfl ?_
  refine gw_iconst (v := 1) CX.1 dLaw_law_274 (by decide) ?_
  refine gw_iadd CX.1 dLaw_law_275 ?_
  refine gl_sld CX (hin 1 (by decide)) dLaw_law_276 ?_
  refine gw_aload_n CX.1 3 rfl dLaw_law_277 rfl ?_
  refine gw_iload_n CX.1 0 rfl dLaw_law_278 rfl ?_
  refine gw_iconst (v := 2) CX.1 dLaw_law_279 (by decide) ?_
  refine gw_iadd CX.1 dLaw_law_280 ?_
  refine gl_sld CX (hin 2 (by decide)) dLaw_law_281 ?_
  refine gw_aload_n CX.1 3 rfl dLaw_law_282 rfl ?_
  refine gw_iload_n CX.1 0 rfl dLaw_law_283 rfl ?_
  refine gw_iconst (v := 3) CX.1 dLaw_law_284 (by decide) ?_
  refine gw_iadd CX.1 dLaw_law_285 ?_
  refine gl_sld CX (hin 3 (by decide)) dLaw_law_286 ?_
  refine gl_call (av := [.int (xs (nI i + 1).toNatClampNeg), .int (xs (nI i + 2).toNatClampNeg), .int (xs (nI i + 3).toNatClampNeg)]) (S := []) CX nDesk_lay ok_Desk_lay rfl mk_0 rfl rfl wi_Desk_lay wse_Desk_lay wini_Desk (Nat.le_of_ble_eq_true rfl) rfl wm_Law_28 dLaw_law_287 (st_lay F G hR) (fun x F1 G1 H => ?_)
  refine gw_aload_n CX.1 1 rfl dLaw_law_290 rfl ?_
  refine gw_aload_n CX.1 3 rfl dLaw_law_291 rfl ?_
  refine gw_iload_n CX.1 0 rfl dLaw_law_292 rfl ?_
  refine gw_iconst (v := 1) CX.1 dLaw_law_293 (by decide) ?_
  refine gw_iadd CX.1 dLaw_law_294 ?_
  refine gl_sld CX (hin 1 (by decide)) dLaw_law_295 ?_
  refine gw_aload_n CX.1 3 rfl dLaw_law_296 rfl ?_
  refine gw_iload_n CX.1 0 rfl dLaw_law_297 rfl ?_
  refine gw_iconst (v := 2) CX.1 dLaw_law_298 (by decide) ?_
  refine gw_iadd CX.1 dLaw_law_299 ?_
  refine gl_sld CX (hin 2 (by decide)) dLaw_law_300 ?_
  refine gw_aload_n CX.1 3 rfl dLaw_law_301 rfl ?_
  refine gw_iload_n CX.1 0 rfl dLaw_law_302 rfl ?_
  refine gw_iconst (v := 3) CX.1 dLaw_law_303 (by decide) ?_
  refine gw_iadd CX.1 dLaw_law_304 ?_
  refine gl_sld CX (hin 3 (by decide)) dLaw_law_305 ?_
  refine gl_call (av := [.int (xs (nI i + 1).toNatClampNeg), .int (xs (nI i + 2).toNatClampNeg), .int (xs (nI i + 3).toNatClampNeg)]) (S := [.int x]) CX nModel_lay ok_Model_lay rfl mk_38 rfl rfl wi_Model_lay wse_Model_lay wini_Model (Nat.le_of_ble_eq_true rfl) rfl wm_Law_31 dLaw_law_306 H (fun y F2 G2 H2 => ?_)
  exact gw_icmp_eq (tgt := 1010) CX.1 dLaw_law_309 (by decide) (fun c => k F2 G2 H2.2) (fun c => absurd H2.1 c)
theorem lw_case_4 (CX : gLX D N xs X) {i : Nat} (hin : ∀ o : Nat, o < 6 → vp_in (nI i + nI o) N) {F : gF} {G : Nat → Int64} (hR : RI F) (k : ∀ F' G', RI F' → GW X nLaw_law 1010 [(3, .int (nI i)), (2, .ref 39), (1, .ref 1), (0, .ref 0)] [] (mk F' G') 60 75283) : GW X nLaw_law 314 [(3, .int (nI i)), (2, .ref 39), (1, .ref 1), (0, .ref 0)] [] (mk F G) 60 75283 := by
  refine gw_aload_n CX.1 2 rfl dLaw_law_314 rfl ?_
  refine gw_aload_n CX.1 3 rfl dLaw_law_315 rfl ?_
  refine gw_iload_n CX.1 0 rfl dLaw_law_316 rfl ?_
  refine gw_iconst (v := 1) CX.1 dLaw_law_317 (by decide) ?_
  refine gw_iadd CX.1 dLaw_law_318 ?_
  refine gl_sld CX (hin 1 (by decide)) dLaw_law_319 ?_
  refine gw_aload_n CX.1 3 rfl dLaw_law_320 rfl ?_
  refine gw_iload_n CX.1 0 rfl dLaw_law_321 rfl ?_
  refine gw_iconst (v := 2) CX.1 dLaw_law_322 (by decide) ?_
  refine gw_iadd CX.1 dLaw_law_323 ?_
  refine gl_sld CX (hin 2 (by decide)) dLaw_law_324 ?_
  refine gw_aload_n CX.1 3 rfl dLaw_law_325 rfl ?_
  refine gw_iload_n CX.1 0 rfl dLaw_law_326 rfl ?_
  refine gw_iconst (v := 3) CX.1 dLaw_law_327 (by decide) ?_
  refine gw_iadd CX.1 dLaw_law_328 ?_
  refine gl_sld CX (hin 3 (by decide)) dLaw_law_329 ?_
  refine gl_call (av := [.int (xs (nI i + 1).toNatClampNeg), .int (xs (nI i + 2).toNatClampNeg), .int (xs (nI i + 3).toNatClampNeg)]) (S := []) CX nDesk_told ok_Desk_told rfl mk_0 rfl rfl wi_Desk_told wse_Desk_told wini_Desk (Nat.le_of_ble_eq_true rfl) rfl wm_Law_32 dLaw_law_330 (st_told F G hR) (fun x F1 G1 H => ?_)
  refine gw_aload_n CX.1 1 rfl dLaw_law_333 rfl ?_
  refine gw_aload_n CX.1 3 rfl dLaw_law_334 rfl ?_
  refine gw_iload_n CX.1 0 rfl dLaw_law_335 rfl ?_
  refine gw_iconst (v := 1) CX.1 dLaw_law_336 (by decide) ?_
  refine gw_iadd CX.1 dLaw_law_337 ?_
  refine gl_sld CX (hin 1 (by decide)) dLaw_law_338 ?_
  refine gw_aload_n CX.1 3 rfl dLaw_law_339 rfl ?_
  refine gw_iload_n CX.1 0 rfl dLaw_law_340 rfl ?_
  refine gw_iconst (v := 2) CX.1 dLaw_law_341 (by decide) ?_
  refine gw_iadd CX.1 dLaw_law_342 ?_
  refine gl_sld CX (hin 2 (by decide)) dLaw_law_343 ?_
  refine gw_aload_n CX.1 3 rfl dLaw_law_344 rfl ?_
  refine gw_iload_n CX.1 0 rfl dLaw_law_345 rfl ?_
  refine gw_iconst (v := 3) CX.1 dLaw_law_346 (by decide) ?_
  refine gw_iadd CX.1 dLaw_law_347 ?_
  refine gl_sld CX (hin 3 (by decide)) dLaw_law_348 ?_
  refine gl_call (av := [.int (xs (nI i + 1).toNatClampNeg), .int (xs (nI i + 2).toNatClampNeg), .int (xs (nI i + 3).toNatClampNeg)]) (S := [.int x]) CX nModel_told ok_Model_told rfl mk_38 rfl rfl wi_Model_told wse_Model_told wini_Model (Nat.le_of_ble_eq_true rfl) rfl wm_Law_35 dLaw_law_349 H (fun y F2 G2 H2 => ?_)
  exact gw_icmp_eq (tgt := 1010) CX.1 dLaw_law_352 (by decide) (fun c => k F2 G2 H2.2) (fun c => absurd H2.1 c)
theorem lw_case_5 (CX : gLX D N xs X) {i : Nat} (hin : ∀ o : Nat, o < 6 → vp_in (nI i + nI o) N) {F : gF} {G : Nat → Int64} (hR : RI F) (k : ∀ F' G', RI F' → GW X nLaw_law 1010 [(3, .int (nI i)), (2, .ref 39), (1, .ref 1), (0, .ref 0)] [] (mk F' G') 60 75283) : GW X nLaw_law 357 [(3, .int (nI i)), (2, .ref 39), (1, .ref 1), (0, .ref 0)] [] (mk F G) 60 75283 := by
  refine gw_aload_n CX.1 2 rfl dLaw_law_357 rfl ?_
  refine gw_aload_n CX.1 3 rfl dLaw_law_358 rfl ?_
  refine gw_iload_n CX.1 0 rfl dLaw_law_359 rfl ?_
  refine gw_iconst (v := 1) CX.1 dLaw_law_360 (by decide) ?_
  refine gw_iadd CX.1 dLaw_law_361 ?_
  refine gl_sld CX (hin 1 (by decide)) dLaw_law_362 ?_
  refine gw_aload_n CX.1 3 rfl dLaw_law_363 rfl ?_
  refine gw_iload_n CX.1 0 rfl dLaw_law_364 rfl ?_
  refine gw_iconst (v := 2) CX.1 dLaw_law_365 (by decide) ?_
  refine gw_iadd CX.1 dLaw_law_366 ?_
  refine gl_sld CX (hin 2 (by decide)) dLaw_law_367 ?_
  refine gl_call (av := [.int (xs (nI i + 1).toNatClampNeg), .int (xs (nI i + 2).toNatClampNeg)]) (S := []) CX nDesk_person ok_Desk_person rfl mk_0 rfl rfl wi_Desk_person wse_Desk_person wini_Desk (Nat.le_of_ble_eq_true rfl) rfl wm_Law_36 dLaw_law_368 (st_person F G hR) (fun x F1 G1 H => ?_)
  refine gw_aload_n CX.1 1 rfl dLaw_law_371 rfl ?_
  refine gw_aload_n CX.1 3 rfl dLaw_law_372 rfl ?_
  refine gw_iload_n CX.1 0 rfl dLaw_law_373 rfl ?_
  refine gw_iconst (v := 1) CX.1 dLaw_law_374 (by decide) ?_
  refine gw_iadd CX.1 dLaw_law_375 ?_
  refine gl_sld CX (hin 1 (by decide)) dLaw_law_376 ?_
  refine gw_aload_n CX.1 3 rfl dLaw_law_377 rfl ?_
  refine gw_iload_n CX.1 0 rfl dLaw_law_378 rfl ?_
  refine gw_iconst (v := 2) CX.1 dLaw_law_379 (by decide) ?_
  refine gw_iadd CX.1 dLaw_law_380 ?_
  refine gl_sld CX (hin 2 (by decide)) dLaw_law_381 ?_
  refine gl_call (av := [.int (xs (nI i + 1).toNatClampNeg), .int (xs (nI i + 2).toNatClampNeg)]) (S := [.int x]) CX nModel_person ok_Model_person rfl mk_38 rfl rfl wi_Model_person wse_Model_person wini_Model (Nat.le_of_ble_eq_true rfl) rfl wm_Law_40 dLaw_law_382 H (fun y F2 G2 H2 => ?_)
  exact gw_icmp_eq (tgt := 1010) CX.1 dLaw_law_385 (by decide) (fun c => k F2 G2 H2.2) (fun c => absurd H2.1 c)
theorem lw_case_6 (CX : gLX D N xs X) {i : Nat} (hin : ∀ o : Nat, o < 6 → vp_in (nI i + nI o) N) {F : gF} {G : Nat → Int64} (hR : RI F) (k : ∀ F' G', RI F' → GW X nLaw_law 1010 [(3, .int (nI i)), (2, .ref 39), (1, .ref 1), (0, .ref 0)] [] (mk F' G') 60 75283) : GW X nLaw_law 390 [(3, .int (nI i)), (2, .ref 39), (1, .ref 1), (0, .ref 0)] [] (mk F G) 60 75283 := by
  refine gw_aload_n CX.1 2 rfl dLaw_law_390 rfl ?_
  refine gw_aload_n CX.1 3 rfl dLaw_law_391 rfl ?_
  refine gw_iload_n CX.1 0 rfl dLaw_law_392 rfl ?_
  refine gw_iconst (v := 1) CX.1 dLaw_law_393 (by decide) ?_
  refine gw_iadd CX.1 dLaw_law_394 ?_
  refine gl_sld CX (hin 1 (by decide)) dLaw_law_395 ?_
  refine gw_aload_n CX.1 3 rfl dLaw_law_396 rfl ?_
  refine gw_iload_n CX.1 0 rfl dLaw_law_397 rfl ?_
  refine gw_iconst (v := 2) CX.1 dLaw_law_398 (by decide) ?_
  refine gw_iadd CX.1 dLaw_law_399 ?_
  refine gl_sld CX (hin 2 (by decide)) dLaw_law_400 ?_
  refine gl_call (av := [.int (xs (nI i + 1).toNatClampNeg), .int (xs (nI i + 2).toNatClampNeg)]) (S := []) CX nDesk_isOf ok_Desk_isOf rfl mk_0 rfl rfl wi_Desk_isOf wse_Desk_isOf wini_Desk (Nat.le_of_ble_eq_true rfl) rfl wm_Law_41 dLaw_law_401 (st_isOf F G hR) (fun x F1 G1 H => ?_)
  refine gw_aload_n CX.1 1 rfl dLaw_law_404 rfl ?_
  refine gw_aload_n CX.1 3 rfl dLaw_law_405 rfl ?_
  refine gw_iload_n CX.1 0 rfl dLaw_law_406 rfl ?_
  refine gw_iconst (v := 1) CX.1 dLaw_law_407 (by decide) ?_
  refine gw_iadd CX.1 dLaw_law_408 ?_
  refine gl_sld CX (hin 1 (by decide)) dLaw_law_409 ?_
  refine gw_aload_n CX.1 3 rfl dLaw_law_410 rfl ?_
  refine gw_iload_n CX.1 0 rfl dLaw_law_411 rfl ?_
  refine gw_iconst (v := 2) CX.1 dLaw_law_412 (by decide) ?_
  refine gw_iadd CX.1 dLaw_law_413 ?_
  refine gl_sld CX (hin 2 (by decide)) dLaw_law_414 ?_
  refine gl_call (av := [.int (xs (nI i + 1).toNatClampNeg), .int (xs (nI i + 2).toNatClampNeg)]) (S := [.int x]) CX nModel_isOf ok_Model_isOf rfl mk_38 rfl rfl wi_Model_isOf wse_Model_isOf wini_Model (Nat.le_of_ble_eq_true rfl) rfl wm_Law_44 dLaw_law_415 H (fun y F2 G2 H2 => ?_)
  exact gw_icmp_eq (tgt := 1010) CX.1 dLaw_law_418 (by decide) (fun c => k F2 G2 H2.2) (fun c => absurd H2.1 c)
theorem lw_case_7 (CX : gLX D N xs X) {i : Nat} (hin : ∀ o : Nat, o < 6 → vp_in (nI i + nI o) N) {F : gF} {G : Nat → Int64} (hR : RI F) (k : ∀ F' G', RI F' → GW X nLaw_law 1010 [(3, .int (nI i)), (2, .ref 39), (1, .ref 1), (0, .ref 0)] [] (mk F' G') 60 75283) : GW X nLaw_law 423 [(3, .int (nI i)), (2, .ref 39), (1, .ref 1), (0, .ref 0)] [] (mk F G) 60 75283 := by
  refine gw_aload_n CX.1 2 rfl dLaw_law_423 rfl ?_
  refine gw_aload_n CX.1 3 rfl dLaw_law_424 rfl ?_
  refine gw_iload_n CX.1 0 rfl dLaw_law_425 rfl ?_
  refine gw_iconst (v := 1) CX.1 dLaw_law_426 (by decide) ?_
  refine gw_iadd CX.1 dLaw_law_427 ?_
  refine gl_sld CX (hin 1 (by decide)) dLaw_law_428 ?_
  refine gw_aload_n CX.1 3 rfl dLaw_law_429 rfl ?_
  refine gw_iload_n CX.1 0 rfl dLaw_law_430 rfl ?_
  refine gw_iconst (v := 2) CX.1 dLaw_law_431 (by decide) ?_
  refine gw_iadd CX.1 dLaw_law_432 ?_
  refine gl_sld CX (hin 2 (by decide)) dLaw_law_433 ?_
  refine gl_call (av := [.int (xs (nI i + 1).toNatClampNeg), .int (xs (nI i + 2).toNatClampNeg)]) (S := []) CX nDesk_own ok_Desk_own rfl mk_0 rfl rfl wi_Desk_own wse_Desk_own wini_Desk (Nat.le_of_ble_eq_true rfl) rfl wm_Law_45 dLaw_law_434 (st_own F G hR) (fun x F1 G1 H => ?_)
  refine gw_aload_n CX.1 1 rfl dLaw_law_437 rfl ?_
  refine gw_aload_n CX.1 3 rfl dLaw_law_438 rfl ?_
  refine gw_iload_n CX.1 0 rfl dLaw_law_439 rfl ?_
  refine gw_iconst (v := 1) CX.1 dLaw_law_440 (by decide) ?_
  refine gw_iadd CX.1 dLaw_law_441 ?_
  refine gl_sld CX (hin 1 (by decide)) dLaw_law_442 ?_
  refine gw_aload_n CX.1 3 rfl dLaw_law_443 rfl ?_
  refine gw_iload_n CX.1 0 rfl dLaw_law_444 rfl ?_
  refine gw_iconst (v := 2) CX.1 dLaw_law_445 (by decide) ?_
  refine gw_iadd CX.1 dLaw_law_446 ?_
  refine gl_sld CX (hin 2 (by decide)) dLaw_law_447 ?_
  refine gl_call (av := [.int (xs (nI i + 1).toNatClampNeg), .int (xs (nI i + 2).toNatClampNeg)]) (S := [.int x]) CX nModel_own ok_Model_own rfl mk_38 rfl rfl wi_Model_own wse_Model_own wini_Model (Nat.le_of_ble_eq_true rfl) rfl wm_Law_48 dLaw_law_448 H (fun y F2 G2 H2 => ?_)
  exact gw_icmp_eq (tgt := 1010) CX.1 dLaw_law_451 (by decide) (fun c => k F2 G2 H2.2) (fun c => absurd H2.1 c)
theorem lw_case_8 (CX : gLX D N xs X) {i : Nat} (hin : ∀ o : Nat, o < 6 → vp_in (nI i + nI o) N) {F : gF} {G : Nat → Int64} (hR : RI F) (k : ∀ F' G', RI F' → GW X nLaw_law 1010 [(3, .int (nI i)), (2, .ref 39), (1, .ref 1), (0, .ref 0)] [] (mk F' G') 60 75283) : GW X nLaw_law 456 [(3, .int (nI i)), (2, .ref 39), (1, .ref 1), (0, .ref 0)] [] (mk F G) 60 75283 := by
  refine gw_aload_n CX.1 2 rfl dLaw_law_456 rfl ?_
  refine gw_aload_n CX.1 3 rfl dLaw_law_457 rfl ?_
  refine gw_iload_n CX.1 0 rfl dLaw_law_458 rfl ?_
  refine gw_iconst (v := 1) CX.1 dLaw_law_459 (by decide) ?_
  refine gw_iadd CX.1 dLaw_law_460 ?_
  refine gl_sld CX (hin 1 (by decide)) dLaw_law_461 ?_
  refine gw_aload_n CX.1 3 rfl dLaw_law_462 rfl ?_
  refine gw_iload_n CX.1 0 rfl dLaw_law_463 rfl ?_
  refine gw_iconst (v := 2) CX.1 dLaw_law_464 (by decide) ?_
  refine gw_iadd CX.1 dLaw_law_465 ?_
  refine gl_sld CX (hin 2 (by decide)) dLaw_law_466 ?_
  refine gl_call (av := [.int (xs (nI i + 1).toNatClampNeg), .int (xs (nI i + 2).toNatClampNeg)]) (S := []) CX nDesk_did ok_Desk_did rfl mk_0 rfl rfl wi_Desk_did wse_Desk_did wini_Desk (Nat.le_of_ble_eq_true rfl) rfl wm_Law_49 dLaw_law_467 (st_did F G hR) (fun x F1 G1 H => ?_)
  refine gw_aload_n CX.1 1 rfl dLaw_law_470 rfl ?_
  refine gw_aload_n CX.1 3 rfl dLaw_law_471 rfl ?_
  refine gw_iload_n CX.1 0 rfl dLaw_law_472 rfl ?_
  refine gw_iconst (v := 1) CX.1 dLaw_law_473 (by decide) ?_
  refine gw_iadd CX.1 dLaw_law_474 ?_
  refine gl_sld CX (hin 1 (by decide)) dLaw_law_475 ?_
  refine gw_aload_n CX.1 3 rfl dLaw_law_476 rfl ?_
  refine gw_iload_n CX.1 0 rfl dLaw_law_477 rfl ?_
  refine gw_iconst (v := 2) CX.1 dLaw_law_478 (by decide) ?_
  refine gw_iadd CX.1 dLaw_law_479 ?_
  refine gl_sld CX (hin 2 (by decide)) dLaw_law_480 ?_
  refine gl_call (av := [.int (xs (nI i + 1).toNatClampNeg), .int (xs (nI i + 2).toNatClampNeg)]) (S := [.int x]) CX nModel_did ok_Model_did rfl mk_38 rfl rfl wi_Model_did wse_Model_did wini_Model (Nat.le_of_ble_eq_true rfl) rfl wm_Law_52 dLaw_law_481 H (fun y F2 G2 H2 => ?_)
  exact gw_icmp_eq (tgt := 1010) CX.1 dLaw_law_484 (by decide) (fun c => k F2 G2 H2.2) (fun c => absurd H2.1 c)
theorem lw_case_9 (CX : gLX D N xs X) {i : Nat} (hin : ∀ o : Nat, o < 6 → vp_in (nI i + nI o) N) {F : gF} {G : Nat → Int64} (hR : RI F) (k : ∀ F' G', RI F' → GW X nLaw_law 1010 [(3, .int (nI i)), (2, .ref 39), (1, .ref 1), (0, .ref 0)] [] (mk F' G') 60 75283) : GW X nLaw_law 489 [(3, .int (nI i)), (2, .ref 39), (1, .ref 1), (0, .ref 0)] [] (mk F G) 60 75283 := by
  refine gw_aload_n CX.1 2 rfl dLaw_law_489 rfl ?_
  refine gw_aload_n CX.1 3 rfl dLaw_law_490 rfl ?_
  refine gw_iload_n CX.1 0 rfl dLaw_law_491 rfl ?_
  refine gw_iconst (v := 1) CX.1 dLaw_law_492 (by decide) ?_
  refine gw_iadd CX.1 dLaw_law_493 ?_
  refine gl_sld CX (hin 1 (by decide)) dLaw_law_494 ?_
  refine gw_aload_n CX.1 3 rfl dLaw_law_495 rfl ?_
  refine gw_iload_n CX.1 0 rfl dLaw_law_496 rfl ?_
  refine gw_iconst (v := 2) CX.1 dLaw_law_497 (by decide) ?_
  refine gw_iadd CX.1 dLaw_law_498 ?_
  refine gl_sld CX (hin 2 (by decide)) dLaw_law_499 ?_
  refine gl_call (av := [.int (xs (nI i + 1).toNatClampNeg), .int (xs (nI i + 2).toNatClampNeg)]) (S := []) CX nDesk_fresh ok_Desk_fresh rfl mk_0 rfl rfl wi_Desk_fresh wse_Desk_fresh wini_Desk (Nat.le_of_ble_eq_true rfl) rfl wm_Law_53 dLaw_law_500 (st_fresh F G hR) (fun x F1 G1 H => ?_)
  refine gw_aload_n CX.1 1 rfl dLaw_law_503 rfl ?_
  refine gw_aload_n CX.1 3 rfl dLaw_law_504 rfl ?_
  refine gw_iload_n CX.1 0 rfl dLaw_law_505 rfl ?_
  refine gw_iconst (v := 1) CX.1 dLaw_law_506 (by decide) ?_
  refine gw_iadd CX.1 dLaw_law_507 ?_
  refine gl_sld CX (hin 1 (by decide)) dLaw_law_508 ?_
  refine gw_aload_n CX.1 3 rfl dLaw_law_509 rfl ?_
  refine gw_iload_n CX.1 0 rfl dLaw_law_510 rfl ?_
  refine gw_iconst (v := 2) CX.1 dLaw_law_511 (by decide) ?_
  refine gw_iadd CX.1 dLaw_law_512 ?_
  refine gl_sld CX (hin 2 (by decide)) dLaw_law_513 ?_
  refine gl_call (av := [.int (xs (nI i + 1).toNatClampNeg), .int (xs (nI i + 2).toNatClampNeg)]) (S := [.int x]) CX nModel_fresh ok_Model_fresh rfl mk_38 rfl rfl wi_Model_fresh wse_Model_fresh wini_Model (Nat.le_of_ble_eq_true rfl) rfl wm_Law_56 dLaw_law_514 H (fun y F2 G2 H2 => ?_)
  exact gw_icmp_eq (tgt := 1010) CX.1 dLaw_law_517 (by decide) (fun c => k F2 G2 H2.2) (fun c => absurd H2.1 c)
theorem lw_case_10 (CX : gLX D N xs X) {i : Nat} (hin : ∀ o : Nat, o < 6 → vp_in (nI i + nI o) N) {F : gF} {G : Nat → Int64} (hR : RI F) (k : ∀ F' G', RI F' → GW X nLaw_law 1010 [(3, .int (nI i)), (2, .ref 39), (1, .ref 1), (0, .ref 0)] [] (mk F' G') 60 75283) : GW X nLaw_law 522 [(3, .int (nI i)), (2, .ref 39), (1, .ref 1), (0, .ref 0)] [] (mk F G) 60 75283 := by
  refine gw_aload_n CX.1 2 rfl dLaw_law_522 rfl ?_
  refine gw_aload_n CX.1 3 rfl dLaw_law_523 rfl ?_
  refine gw_iload_n CX.1 0 rfl dLaw_law_524 rfl ?_
  refine gw_iconst (v := 1) CX.1 dLaw_law_525 (by decide) ?_
  refine gw_iadd CX.1 dLaw_law_526 ?_
  refine gl_sld CX (hin 1 (by decide)) dLaw_law_527 ?_
  refine gw_aload_n CX.1 3 rfl dLaw_law_528 rfl ?_
  refine gw_iload_n CX.1 0 rfl dLaw_law_529 rfl ?_
  refine gw_iconst (v := 2) CX.1 dLaw_law_530 (by decide) ?_
  refine gw_iadd CX.1 dLaw_law_531 ?_
  refine gl_sld CX (hin 2 (by decide)) dLaw_law_532 ?_
  refine gl_call (av := [.int (xs (nI i + 1).toNatClampNeg), .int (xs (nI i + 2).toNatClampNeg)]) (S := []) CX nDesk_rehearse ok_Desk_rehearse rfl mk_0 rfl rfl wi_Desk_rehearse wse_Desk_rehearse wini_Desk (Nat.le_of_ble_eq_true rfl) rfl wm_Law_57 dLaw_law_533 (st_rehearse F G hR) (fun x F1 G1 H => ?_)
  refine gw_aload_n CX.1 1 rfl dLaw_law_536 rfl ?_
  refine gw_aload_n CX.1 3 rfl dLaw_law_537 rfl ?_
  refine gw_iload_n CX.1 0 rfl dLaw_law_538 rfl ?_
  refine gw_iconst (v := 1) CX.1 dLaw_law_539 (by decide) ?_
  refine gw_iadd CX.1 dLaw_law_540 ?_
  refine gl_sld CX (hin 1 (by decide)) dLaw_law_541 ?_
  refine gw_aload_n CX.1 3 rfl dLaw_law_542 rfl ?_
  refine gw_iload_n CX.1 0 rfl dLaw_law_543 rfl ?_
  refine gw_iconst (v := 2) CX.1 dLaw_law_544 (by decide) ?_
  refine gw_iadd CX.1 dLaw_law_545 ?_
  refine gl_sld CX (hin 2 (by decide)) dLaw_law_546 ?_
  refine gl_call (av := [.int (xs (nI i + 1).toNatClampNeg), .int (xs (nI i + 2).toNatClampNeg)]) (S := [.int x]) CX nModel_rehearse ok_Model_rehearse rfl mk_38 rfl rfl wi_Model_rehearse wse_Model_rehearse wini_Model (Nat.le_of_ble_eq_true rfl) rfl wm_Law_60 dLaw_law_547 H (fun y F2 G2 H2 => ?_)
  exact gw_icmp_eq (tgt := 1010) CX.1 dLaw_law_550 (by decide) (fun c => k F2 G2 H2.2) (fun c => absurd H2.1 c)
theorem lw_case_11 (CX : gLX D N xs X) {i : Nat} (hin : ∀ o : Nat, o < 6 → vp_in (nI i + nI o) N) {F : gF} {G : Nat → Int64} (hR : RI F) (k : ∀ F' G', RI F' → GW X nLaw_law 1010 [(3, .int (nI i)), (2, .ref 39), (1, .ref 1), (0, .ref 0)] [] (mk F' G') 60 75283) : GW X nLaw_law 555 [(3, .int (nI i)), (2, .ref 39), (1, .ref 1), (0, .ref 0)] [] (mk F G) 60 75283 := by
  refine gw_aload_n CX.1 2 rfl dLaw_law_555 rfl ?_
  refine gw_aload_n CX.1 3 rfl dLaw_law_556 rfl ?_
  refine gw_iload_n CX.1 0 rfl dLaw_law_557 rfl ?_
  refine gw_iconst (v := 1) CX.1 dLaw_law_558 (by decide) ?_
  refine gw_iadd CX.1 dLaw_law_559 ?_
  refine gl_sld CX (hin 1 (by decide)) dLaw_law_560 ?_
  refine gw_aload_n CX.1 3 rfl dLaw_law_561 rfl ?_
  refine gw_iload_n CX.1 0 rfl dLaw_law_562 rfl ?_
  refine gw_iconst (v := 2) CX.1 dLaw_law_563 (by decide) ?_
  refine gw_iadd CX.1 dLaw_law_564 ?_
  refine gl_sld CX (hin 2 (by decide)) dLaw_law_565 ?_
  refine gw_aload_n CX.1 3 rfl dLaw_law_566 rfl ?_
  refine gw_iload_n CX.1 0 rfl dLaw_law_567 rfl ?_
  refine gw_iconst (v := 3) CX.1 dLaw_law_568 (by decide) ?_
  refine gw_iadd CX.1 dLaw_law_569 ?_
  refine gl_sld CX (hin 3 (by decide)) dLaw_law_570 ?_
  refine gl_call (av := [.int (xs (nI i + 1).toNatClampNeg), .int (xs (nI i + 2).toNatClampNeg), .int (xs (nI i + 3).toNatClampNeg)]) (S := []) CX nDesk_feud ok_Desk_feud rfl mk_0 rfl rfl wi_Desk_feud wse_Desk_feud wini_Desk (Nat.le_of_ble_eq_true rfl) rfl wm_Law_61 dLaw_law_571 (st_feud F G hR) (fun x F1 G1 H => ?_)
  refine gw_aload_n CX.1 1 rfl dLaw_law_574 rfl ?_
  refine gw_aload_n CX.1 3 rfl dLaw_law_575 rfl ?_
  refine gw_iload_n CX.1 0 rfl dLaw_law_576 rfl ?_
  refine gw_iconst (v := 1) CX.1 dLaw_law_577 (by decide) ?_
  refine gw_iadd CX.1 dLaw_law_578 ?_
  refine gl_sld CX (hin 1 (by decide)) dLaw_law_579 ?_
  refine gw_aload_n CX.1 3 rfl dLaw_law_580 rfl ?_
  refine gw_iload_n CX.1 0 rfl dLaw_law_581 rfl ?_
  refine gw_iconst (v := 2) CX.1 dLaw_law_582 (by decide) ?_
  refine gw_iadd CX.1 dLaw_law_583 ?_
  refine gl_sld CX (hin 2 (by decide)) dLaw_law_584 ?_
  refine gw_aload_n CX.1 3 rfl dLaw_law_585 rfl ?_
  refine gw_iload_n CX.1 0 rfl dLaw_law_586 rfl ?_
  refine gw_iconst (v := 3) CX.1 dLaw_law_587 (by decide) ?_
  refine gw_iadd CX.1 dLaw_law_588 ?_
  refine gl_sld CX (hin 3 (by decide)) dLaw_law_589 ?_
  refine gl_call (av := [.int (xs (nI i + 1).toNatClampNeg), .int (xs (nI i + 2).toNatClampNeg), .int (xs (nI i + 3).toNatClampNeg)]) (S := [.int x]) CX nModel_feud ok_Model_feud rfl mk_38 rfl rfl wi_Model_feud wse_Model_feud wini_Model (Nat.le_of_ble_eq_true rfl) rfl wm_Law_64 dLaw_law_590 H (fun y F2 G2 H2 => ?_)
  exact gw_icmp_eq (tgt := 1010) CX.1 dLaw_law_593 (by decide) (fun c => k F2 G2 H2.2) (fun c => absurd H2.1 c)
theorem lw_case_12 (CX : gLX D N xs X) {i : Nat} (hin : ∀ o : Nat, o < 6 → vp_in (nI i + nI o) N) {F : gF} {G : Nat → Int64} (hR : RI F) (k : ∀ F' G', RI F' → GW X nLaw_law 1010 [(3, .int (nI i)), (2, .ref 39), (1, .ref 1), (0, .ref 0)] [] (mk F' G') 60 75283) : GW X nLaw_law 598 [(3, .int (nI i)), (2, .ref 39), (1, .ref 1), (0, .ref 0)] [] (mk F G) 60 75283 := by
  refine gw_aload_n CX.1 2 rfl dLaw_law_598 rfl ?_
  refine gw_aload_n CX.1 3 rfl dLaw_law_599 rfl ?_
  refine gw_iload_n CX.1 0 rfl dLaw_law_600 rfl ?_
  refine gw_iconst (v := 1) CX.1 dLaw_law_601 (by decide) ?_
  refine gw_iadd CX.1 dLaw_law_602 ?_
  refine gl_sld CX (hin 1 (by decide)) dLaw_law_603 ?_
  refine gl_call (av := [.int (xs (nI i + 1).toNatClampNeg)]) (S := []) CX nDesk_days ok_Desk_days rfl mk_0 rfl rfl wi_Desk_days wse_Desk_days wini_Desk (Nat.le_of_ble_eq_true rfl) rfl wm_Law_65 dLaw_law_604 (st_days F G hR) (fun x F1 G1 H => ?_)
  refine gw_aload_n CX.1 1 rfl dLaw_law_607 rfl ?_
  refine gw_aload_n CX.1 3 rfl dLaw_law_608 rfl ?_
  refine gw_iload_n CX.1 0 rfl dLaw_law_609 rfl ?_
  refine gw_iconst (v := 1) CX.1 dLaw_law_610 (by decide) ?_
  refine gw_iadd CX.1 dLaw_law_611 ?_
  refine gl_sld CX (hin 1 (by decide)) dLaw_law_612 ?_
  refine gl_call (av := [.int (xs (nI i + 1).toNatClampNeg)]) (S := [.int x]) CX nModel_days ok_Model_days rfl mk_38 rfl rfl wi_Model_days wse_Model_days wini_Model (Nat.le_of_ble_eq_true rfl) rfl wm_Law_68 dLaw_law_613 H (fun y F2 G2 H2 => ?_)
  exact gw_icmp_eq (tgt := 1010) CX.1 dLaw_law_616 (by decide) (fun c => k F2 G2 H2.2) (fun c => absurd H2.1 c)
theorem lw_case_13 (CX : gLX D N xs X) {i : Nat} (hin : ∀ o : Nat, o < 6 → vp_in (nI i + nI o) N) {F : gF} {G : Nat → Int64} (hR : RI F) (k : ∀ F' G', RI F' → GW X nLaw_law 1010 [(3, .int (nI i)), (2, .ref 39), (1, .ref 1), (0, .ref 0)] [] (mk F' G') 60 75283) : GW X nLaw_law 621 [(3, .int (nI i)), (2, .ref 39), (1, .ref 1), (0, .ref 0)] [] (mk F G) 60 75283 := by
  refine gw_aload_n CX.1 2 rfl dLaw_law_621 rfl ?_
  refine gw_aload_n CX.1 3 rfl dLaw_law_622 rfl ?_
  refine gw_iload_n CX.1 0 rfl dLaw_law_623 rfl ?_
  refine gw_iconst (v := 1) CX.1 dLaw_law_624 (by decide) ?_
  refine gw_iadd CX.1 dLaw_law_625 ?_
  refine gl_sld CX (hin 1 (by decide)) dLaw_law_626 ?_
  refine gw_aload_n CX.1 3 rfl dLaw_law_627 rfl ?_
  refine gw_iload_n CX.1 0 rfl dLaw_law_628 rfl ?_
  refine gw_iconst (v := 2) CX.1 dLaw_law_629 (by decide) ?_
  refine gw_iadd CX.1 dLaw_law_630 ?_
  refine gl_sld CX (hin 2 (by decide)) dLaw_law_631 ?_
  refine gl_call (av := [.int (xs (nI i + 1).toNatClampNeg), .int (xs (nI i + 2).toNatClampNeg)]) (S := []) CX nDesk_out ok_Desk_out rfl mk_0 rfl rfl wi_Desk_out wse_Desk_out wini_Desk (Nat.le_of_ble_eq_true rfl) rfl wm_Law_69 dLaw_law_632 (st_out F G hR) (fun x F1 G1 H => ?_)
  refine gw_aload_n CX.1 1 rfl dLaw_law_635 rfl ?_
  refine gw_aload_n CX.1 3 rfl dLaw_law_636 rfl ?_
  refine gw_iload_n CX.1 0 rfl dLaw_law_637 rfl ?_
  refine gw_iconst (v := 1) CX.1 dLaw_law_638 (by decide) ?_
  refine gw_iadd CX.1 dLaw_law_639 ?_
  refine gl_sld CX (hin 1 (by decide)) dLaw_law_640 ?_
  refine gw_aload_n CX.1 3 rfl dLaw_law_641 rfl ?_
  refine gw_iload_n CX.1 0 rfl dLaw_law_642 rfl ?_
  refine gw_iconst (v := 2) CX.1 dLaw_law_643 (by decide) ?_
  refine gw_iadd CX.1 dLaw_law_644 ?_
  refine gl_sld CX (hin 2 (by decide)) dLaw_law_645 ?_
  refine gl_call (av := [.int (xs (nI i + 1).toNatClampNeg), .int (xs (nI i + 2).toNatClampNeg)]) (S := [.int x]) CX nModel_out ok_Model_out rfl mk_38 rfl rfl wi_Model_out wse_Model_out wini_Model (Nat.le_of_ble_eq_true rfl) rfl wm_Law_72 dLaw_law_646 H (fun y F2 G2 H2 => ?_)
  exact gw_icmp_eq (tgt := 1010) CX.1 dLaw_law_649 (by decide) (fun c => k F2 G2 H2.2) (fun c => absurd H2.1 c)
theorem lw_case_14 (CX : gLX D N xs X) {i : Nat} (hin : ∀ o : Nat, o < 6 → vp_in (nI i + nI o) N) {F : gF} {G : Nat → Int64} (hR : RI F) (k : ∀ F' G', RI F' → GW X nLaw_law 1010 [(3, .int (nI i)), (2, .ref 39), (1, .ref 1), (0, .ref 0)] [] (mk F' G') 60 75283) : GW X nLaw_law 654 [(3, .int (nI i)), (2, .ref 39), (1, .ref 1), (0, .ref 0)] [] (mk F G) 60 75283 := by
  refine gw_aload_n CX.1 2 rfl dLaw_law_654 rfl ?_
  refine gw_aload_n CX.1 3 rfl dLaw_law_655 rfl ?_
  refine gw_iload_n CX.1 0 rfl dLaw_law_656 rfl ?_
  refine gw_iconst (v := 1) CX.1 dLaw_law_657 (by decide) ?_
  refine gw_iadd CX.1 dLaw_law_658 ?_
  refine gl_sld CX (hin 1 (by decide)) dLaw_law_659 ?_
  refine gl_call (av := [.int (xs (nI i + 1).toNatClampNeg)]) (S := []) CX nDesk_cast ok_Desk_cast rfl mk_0 rfl rfl wi_Desk_cast wse_Desk_cast wini_Desk (Nat.le_of_ble_eq_true rfl) rfl wm_Law_73 dLaw_law_660 (st_cast F G hR) (fun x F1 G1 H => ?_)
  refine gw_aload_n CX.1 1 rfl dLaw_law_663 rfl ?_
  refine gw_aload_n CX.1 3 rfl dLaw_law_664 rfl ?_
  refine gw_iload_n CX.1 0 rfl dLaw_law_665 rfl ?_
  refine gw_iconst (v := 1) CX.1 dLaw_law_666 (by decide) ?_
  refine gw_iadd CX.1 dLaw_law_667 ?_
  refine gl_sld CX (hin 1 (by decide)) dLaw_law_668 ?_
  refine gl_call (av := [.int (xs (nI i + 1).toNatClampNeg)]) (S := [.int x]) CX nModel_cast ok_Model_cast rfl mk_38 rfl rfl wi_Model_cast wse_Model_cast wini_Model (Nat.le_of_ble_eq_true rfl) rfl wm_Law_76 dLaw_law_669 H (fun y F2 G2 H2 => ?_)
  exact gw_icmp_eq (tgt := 1010) CX.1 dLaw_law_672 (by decide) (fun c => k F2 G2 H2.2) (fun c => absurd H2.1 c)
theorem lw_case_15 (CX : gLX D N xs X) {i : Nat} (hin : ∀ o : Nat, o < 6 → vp_in (nI i + nI o) N) {F : gF} {G : Nat → Int64} (hR : RI F) (k : ∀ F' G', RI F' → GW X nLaw_law 1010 [(3, .int (nI i)), (2, .ref 39), (1, .ref 1), (0, .ref 0)] [] (mk F' G') 60 75283) : GW X nLaw_law 677 [(3, .int (nI i)), (2, .ref 39), (1, .ref 1), (0, .ref 0)] [] (mk F G) 60 75283 := by
  refine gw_aload_n CX.1 2 rfl dLaw_law_677 rfl ?_
  refine gw_aload_n CX.1 3 rfl dLaw_law_678 rfl ?_
  refine gw_iload_n CX.1 0 rfl dLaw_law_679 rfl ?_
  refine gw_iconst (v := 1) CX.1 dLaw_law_680 (by decide) ?_
  refine gw_iadd CX.1 dLaw_law_681 ?_
  refine gl_sld CX (hin 1 (by decide)) dLaw_law_682 ?_
  refine gl_call (av := [.int (xs (nI i + 1).toNatClampNeg)]) (S := []) CX nDesk_has ok_Desk_has rfl mk_0 rfl rfl wi_Desk_has wse_Desk_has wini_Desk (Nat.le_of_ble_eq_true rfl) rfl wm_Law_77 dLaw_law_683 (st_has F G hR) (fun x F1 G1 H => ?_)
  refine gw_aload_n CX.1 1 rfl dLaw_law_686 rfl ?_
  refine gw_aload_n CX.1 3 rfl dLaw_law_687 rfl ?_
  refine gw_iload_n CX.1 0 rfl dLaw_law_688 rfl ?_
  refine gw_iconst (v := 1) CX.1 dLaw_law_689 (by decide) ?_
  refine gw_iadd CX.1 dLaw_law_690 ?_
  refine gl_sld CX (hin 1 (by decide)) dLaw_law_691 ?_
  refine gl_call (av := [.int (xs (nI i + 1).toNatClampNeg)]) (S := [.int x]) CX nModel_has ok_Model_has rfl mk_38 rfl rfl wi_Model_has wse_Model_has wini_Model (Nat.le_of_ble_eq_true rfl) rfl wm_Law_80 dLaw_law_692 H (fun y F2 G2 H2 => ?_)
  exact gw_icmp_eq (tgt := 1010) CX.1 dLaw_law_695 (by decide) (fun c => k F2 G2 H2.2) (fun c => absurd H2.1 c)
theorem lw_case_16 (CX : gLX D N xs X) {i : Nat} (hin : ∀ o : Nat, o < 6 → vp_in (nI i + nI o) N) {F : gF} {G : Nat → Int64} (hR : RI F) (k : ∀ F' G', RI F' → GW X nLaw_law 1010 [(3, .int (nI i)), (2, .ref 39), (1, .ref 1), (0, .ref 0)] [] (mk F' G') 60 75283) : GW X nLaw_law 700 [(3, .int (nI i)), (2, .ref 39), (1, .ref 1), (0, .ref 0)] [] (mk F G) 60 75283 := by
  refine gw_aload_n CX.1 2 rfl dLaw_law_700 rfl ?_
  refine gw_aload_n CX.1 3 rfl dLaw_law_701 rfl ?_
  refine gw_iload_n CX.1 0 rfl dLaw_law_702 rfl ?_
  refine gw_iconst (v := 1) CX.1 dLaw_law_703 (by decide) ?_
  refine gw_iadd CX.1 dLaw_law_704 ?_
  refine gl_sld CX (hin 1 (by decide)) dLaw_law_705 ?_
  refine gl_call (av := [.int (xs (nI i + 1).toNatClampNeg)]) (S := []) CX nDesk_who ok_Desk_who rfl mk_0 rfl rfl wi_Desk_who wse_Desk_who wini_Desk (Nat.le_of_ble_eq_true rfl) rfl wm_Law_81 dLaw_law_706 (st_who F G hR) (fun x F1 G1 H => ?_)
  refine gw_aload_n CX.1 1 rfl dLaw_law_709 rfl ?_
  refine gw_aload_n CX.1 3 rfl dLaw_law_710 rfl ?_
  refine gw_iload_n CX.1 0 rfl dLaw_law_711 rfl ?_
  refine gw_iconst (v := 1) CX.1 dLaw_law_712 (by decide) ?_
  refine gw_iadd CX.1 dLaw_law_713 ?_
  refine gl_sld CX (hin 1 (by decide)) dLaw_law_714 ?_
  refine gl_call (av := [.int (xs (nI i + 1).toNatClampNeg)]) (S := [.int x]) CX nModel_who ok_Model_who rfl mk_38 rfl rfl wi_Model_who wse_Model_who wini_Model (Nat.le_of_ble_eq_true rfl) rfl wm_Law_84 dLaw_law_715 H (fun y F2 G2 H2 => ?_)
  exact gw_icmp_eq (tgt := 1010) CX.1 dLaw_law_718 (by decide) (fun c => k F2 G2 H2.2) (fun c => absurd H2.1 c)
theorem lw_case_17 (CX : gLX D N xs X) {i : Nat} (hin : ∀ o : Nat, o < 6 → vp_in (nI i + nI o) N) {F : gF} {G : Nat → Int64} (hR : RI F) (k : ∀ F' G', RI F' → GW X nLaw_law 1010 [(3, .int (nI i)), (2, .ref 39), (1, .ref 1), (0, .ref 0)] [] (mk F' G') 60 75283) : GW X nLaw_law 723 [(3, .int (nI i)), (2, .ref 39), (1, .ref 1), (0, .ref 0)] [] (mk F G) 60 75283 := by
  refine gw_aload_n CX.1 2 rfl dLaw_law_723 rfl ?_
  refine gw_aload_n CX.1 3 rfl dLaw_law_724 rfl ?_
  refine gw_iload_n CX.1 0 rfl dLaw_law_725 rfl ?_
  refine gw_iconst (v := 1) CX.1 dLaw_law_726 (by decide) ?_
  refine gw_iadd CX.1 dLaw_law_727 ?_
  refine gl_sld CX (hin 1 (by decide)) dLaw_law_728 ?_
  refine gl_call (av := [.int (xs (nI i + 1).toNatClampNeg)]) (S := []) CX nDesk_done ok_Desk_done rfl mk_0 rfl rfl wi_Desk_done wse_Desk_done wini_Desk (Nat.le_of_ble_eq_true rfl) rfl wm_Law_85 dLaw_law_729 (st_done F G hR) (fun x F1 G1 H => ?_)
  refine gw_aload_n CX.1 1 rfl dLaw_law_732 rfl ?_
  refine gw_aload_n CX.1 3 rfl dLaw_law_733 rfl ?_
  refine gw_iload_n CX.1 0 rfl dLaw_law_734 rfl ?_
  refine gw_iconst (v := 1) CX.1 dLaw_law_735 (by decide) ?_
  refine gw_iadd CX.1 dLaw_law_736 ?_
  refine gl_sld CX (hin 1 (by decide)) dLaw_law_737 ?_
  refine gl_call (av := [.int (xs (nI i + 1).toNatClampNeg)]) (S := [.int x]) CX nModel_done ok_Model_done rfl mk_38 rfl rfl wi_Model_done wse_Model_done wini_Model (Nat.le_of_ble_eq_true rfl) rfl wm_Law_88 dLaw_law_738 H (fun y F2 G2 H2 => ?_)
  exact gw_icmp_eq (tgt := 1010) CX.1 dLaw_law_741 (by decide) (fun c => k F2 G2 H2.2) (fun c => absurd H2.1 c)
theorem lw_case_18 (CX : gLX D N xs X) {i : Nat} (hin : ∀ o : Nat, o < 6 → vp_in (nI i + nI o) N) {F : gF} {G : Nat → Int64} (hR : RI F) (k : ∀ F' G', RI F' → GW X nLaw_law 1010 [(3, .int (nI i)), (2, .ref 39), (1, .ref 1), (0, .ref 0)] [] (mk F' G') 60 75283) : GW X nLaw_law 746 [(3, .int (nI i)), (2, .ref 39), (1, .ref 1), (0, .ref 0)] [] (mk F G) 60 75283 := by
  refine gw_aload_n CX.1 2 rfl dLaw_law_746 rfl ?_
  refine gw_aload_n CX.1 3 rfl dLaw_law_747 rfl ?_
  refine gw_iload_n CX.1 0 rfl dLaw_law_748 rfl ?_
  refine gw_iconst (v := 1) CX.1 dLaw_law_749 (by decide) ?_
  refine gw_iadd CX.1 dLaw_law_750 ?_
  refine gl_sld CX (hin 1 (by decide)) dLaw_law_751 ?_
  refine gw_aload_n CX.1 3 rfl dLaw_law_752 rfl ?_
  refine gw_iload_n CX.1 0 rfl dLaw_law_753 rfl ?_
  refine gw_iconst (v := 2) CX.1 dLaw_law_754 (by decide) ?_
  refine gw_iadd CX.1 dLaw_law_755 ?_
  refine gl_sld CX (hin 2 (by decide)) dLaw_law_756 ?_
  refine gl_call (av := [.int (xs (nI i + 1).toNatClampNeg), .int (xs (nI i + 2).toNatClampNeg)]) (S := []) CX nDesk_hurt ok_Desk_hurt rfl mk_0 rfl rfl wi_Desk_hurt wse_Desk_hurt wini_Desk (Nat.le_of_ble_eq_true rfl) rfl wm_Law_89 dLaw_law_757 (st_hurt F G hR) (fun x F1 G1 H => ?_)
  refine gw_aload_n CX.1 1 rfl dLaw_law_760 rfl ?_
  refine gw_aload_n CX.1 3 rfl dLaw_law_761 rfl ?_
  refine gw_iload_n CX.1 0 rfl dLaw_law_762 rfl ?_
  refine gw_iconst (v := 1) CX.1 dLaw_law_763 (by decide) ?_
  refine gw_iadd CX.1 dLaw_law_764 ?_
  refine gl_sld CX (hin 1 (by decide)) dLaw_law_765 ?_
  refine gw_aload_n CX.1 3 rfl dLaw_law_766 rfl ?_
  refine gw_iload_n CX.1 0 rfl dLaw_law_767 rfl ?_
  refine gw_iconst (v := 2) CX.1 dLaw_law_768 (by decide) ?_
  refine gw_iadd CX.1 dLaw_law_769 ?_
  refine gl_sld CX (hin 2 (by decide)) dLaw_law_770 ?_
  refine gl_call (av := [.int (xs (nI i + 1).toNatClampNeg), .int (xs (nI i + 2).toNatClampNeg)]) (S := [.int x]) CX nModel_hurt ok_Model_hurt rfl mk_38 rfl rfl wi_Model_hurt wse_Model_hurt wini_Model (Nat.le_of_ble_eq_true rfl) rfl wm_Law_92 dLaw_law_771 H (fun y F2 G2 H2 => ?_)
  exact gw_icmp_eq (tgt := 1010) CX.1 dLaw_law_774 (by decide) (fun c => k F2 G2 H2.2) (fun c => absurd H2.1 c)
theorem lw_case_19 (CX : gLX D N xs X) {i : Nat} (hin : ∀ o : Nat, o < 6 → vp_in (nI i + nI o) N) {F : gF} {G : Nat → Int64} (hR : RI F) (k : ∀ F' G', RI F' → GW X nLaw_law 1010 [(3, .int (nI i)), (2, .ref 39), (1, .ref 1), (0, .ref 0)] [] (mk F' G') 60 75283) : GW X nLaw_law 779 [(3, .int (nI i)), (2, .ref 39), (1, .ref 1), (0, .ref 0)] [] (mk F G) 60 75283 := by
  refine gw_aload_n CX.1 2 rfl dLaw_law_779 rfl ?_
  refine gw_aload_n CX.1 3 rfl dLaw_law_780 rfl ?_
  refine gw_iload_n CX.1 0 rfl dLaw_law_781 rfl ?_
  refine gw_iconst (v := 1) CX.1 dLaw_law_782 (by decide) ?_
  refine gw_iadd CX.1 dLaw_law_783 ?_
  refine gl_sld CX (hin 1 (by decide)) dLaw_law_784 ?_
  refine gw_aload_n CX.1 3 rfl dLaw_law_785 rfl ?_
  refine gw_iload_n CX.1 0 rfl dLaw_law_786 rfl ?_
  refine gw_iconst (v := 2) CX.1 dLaw_law_787 (by decide) ?_
  refine gw_iadd CX.1 dLaw_law_788 ?_
  refine gl_sld CX (hin 2 (by decide)) dLaw_law_789 ?_
  refine gl_call (av := [.int (xs (nI i + 1).toNatClampNeg), .int (xs (nI i + 2).toNatClampNeg)]) (S := []) CX nDesk_at ok_Desk_at rfl mk_0 rfl rfl wi_Desk_at wse_Desk_at wini_Desk (Nat.le_of_ble_eq_true rfl) rfl wm_Law_93 dLaw_law_790 (st_at F G hR) (fun x F1 G1 H => ?_)
  refine gw_aload_n CX.1 1 rfl dLaw_law_793 rfl ?_
  refine gw_aload_n CX.1 3 rfl dLaw_law_794 rfl ?_
  refine gw_iload_n CX.1 0 rfl dLaw_law_795 rfl ?_
  refine gw_iconst (v := 1) CX.1 dLaw_law_796 (by decide) ?_
  refine gw_iadd CX.1 dLaw_law_797 ?_
  refine gl_sld CX (hin 1 (by decide)) dLaw_law_798 ?_
  refine gw_aload_n CX.1 3 rfl dLaw_law_799 rfl ?_
  refine gw_iload_n CX.1 0 rfl dLaw_law_800 rfl ?_
  refine gw_iconst (v := 2) CX.1 dLaw_law_801 (by decide) ?_
  refine gw_iadd CX.1 dLaw_law_802 ?_
  refine gl_sld CX (hin 2 (by decide)) dLaw_law_803 ?_
  refine gl_call (av := [.int (xs (nI i + 1).toNatClampNeg), .int (xs (nI i + 2).toNatClampNeg)]) (S := [.int x]) CX nModel_at ok_Model_at rfl mk_38 rfl rfl wi_Model_at wse_Model_at wini_Model (Nat.le_of_ble_eq_true rfl) rfl wm_Law_96 dLaw_law_804 H (fun y F2 G2 H2 => ?_)
  exact gw_icmp_eq (tgt := 1010) CX.1 dLaw_law_807 (by decide) (fun c => k F2 G2 H2.2) (fun c => absurd H2.1 c)
theorem lw_case_20 (CX : gLX D N xs X) {i : Nat} (hin : ∀ o : Nat, o < 6 → vp_in (nI i + nI o) N) {F : gF} {G : Nat → Int64} (hR : RI F) (k : ∀ F' G', RI F' → GW X nLaw_law 1010 [(3, .int (nI i)), (2, .ref 39), (1, .ref 1), (0, .ref 0)] [] (mk F' G') 60 75283) : GW X nLaw_law 812 [(3, .int (nI i)), (2, .ref 39), (1, .ref 1), (0, .ref 0)] [] (mk F G) 60 75283 := by
  refine gw_aload_n CX.1 2 rfl dLaw_law_812 rfl ?_
  refine gl_call (av := []) (S := []) CX nDesk_plan ok_Desk_plan rfl mk_0 rfl rfl wi_Desk_plan wse_Desk_plan wini_Desk (Nat.le_of_ble_eq_true rfl) rfl wm_Law_97 dLaw_law_813 (st_plan F G hR) (fun x F1 G1 H => ?_)
  refine gw_aload_n CX.1 1 rfl dLaw_law_816 rfl ?_
  refine gl_call (av := []) (S := [.int x]) CX nModel_plan ok_Model_plan rfl mk_38 rfl rfl wi_Model_plan wse_Model_plan wini_Model (Nat.le_of_ble_eq_true rfl) rfl wm_Law_101 dLaw_law_817 H (fun y F2 G2 H2 => ?_)
  exact gw_icmp_eq (tgt := 1010) CX.1 dLaw_law_820 (by decide) (fun c => k F2 G2 H2.2) (fun c => absurd H2.1 c)
theorem lw_case_21 (CX : gLX D N xs X) {i : Nat} (hin : ∀ o : Nat, o < 6 → vp_in (nI i + nI o) N) {F : gF} {G : Nat → Int64} (hR : RI F) (k : ∀ F' G', RI F' → GW X nLaw_law 1010 [(3, .int (nI i)), (2, .ref 39), (1, .ref 1), (0, .ref 0)] [] (mk F' G') 60 75283) : GW X nLaw_law 825 [(3, .int (nI i)), (2, .ref 39), (1, .ref 1), (0, .ref 0)] [] (mk F G) 60 75283 := by
  refine gw_aload_n CX.1 2 rfl dLaw_law_825 rfl ?_
  refine gw_aload_n CX.1 3 rfl dLaw_law_826 rfl ?_
  refine gw_iload_n CX.1 0 rfl dLaw_law_827 rfl ?_
  refine gw_iconst (v := 1) CX.1 dLaw_law_828 (by decide) ?_
  refine gw_iadd CX.1 dLaw_law_829 ?_
  refine gl_sld CX (hin 1 (by decide)) dLaw_law_830 ?_
  refine gl_call (av := [.int (xs (nI i + 1).toNatClampNeg)]) (S := []) CX nDesk_putIn ok_Desk_putIn rfl mk_0 rfl rfl wi_Desk_putIn wse_Desk_putIn wini_Desk (Nat.le_of_ble_eq_true rfl) rfl wm_Law_102 dLaw_law_831 (st_putIn F G hR) (fun x F1 G1 H => ?_)
  refine gw_aload_n CX.1 1 rfl dLaw_law_834 rfl ?_
  refine gw_aload_n CX.1 3 rfl dLaw_law_835 rfl ?_
  refine gw_iload_n CX.1 0 rfl dLaw_law_836 rfl ?_
  refine gw_iconst (v := 1) CX.1 dLaw_law_837 (by decide) ?_
  refine gw_iadd CX.1 dLaw_law_838 ?_
  refine gl_sld CX (hin 1 (by decide)) dLaw_law_839 ?_
  refine gl_call (av := [.int (xs (nI i + 1).toNatClampNeg)]) (S := [.int x]) CX nModel_putIn ok_Model_putIn rfl mk_38 rfl rfl wi_Model_putIn wse_Model_putIn wini_Model (Nat.le_of_ble_eq_true rfl) rfl wm_Law_105 dLaw_law_840 H (fun y F2 G2 H2 => ?_)
  exact gw_icmp_eq (tgt := 1010) CX.1 dLaw_law_843 (by decide) (fun c => k F2 G2 H2.2) (fun c => absurd H2.1 c)
theorem lw_case_22 (CX : gLX D N xs X) {i : Nat} (hin : ∀ o : Nat, o < 6 → vp_in (nI i + nI o) N) {F : gF} {G : Nat → Int64} (hR : RI F) (k : ∀ F' G', RI F' → GW X nLaw_law 1010 [(3, .int (nI i)), (2, .ref 39), (1, .ref 1), (0, .ref 0)] [] (mk F' G') 60 75283) : GW X nLaw_law 848 [(3, .int (nI i)), (2, .ref 39), (1, .ref 1), (0, .ref 0)] [] (mk F G) 60 75283 := by
  refine gw_aload_n CX.1 2 rfl dLaw_law_848 rfl ?_
  refine gw_aload_n CX.1 3 rfl dLaw_law_849 rfl ?_
  refine gw_iload_n CX.1 0 rfl dLaw_law_850 rfl ?_
  refine gw_iconst (v := 1) CX.1 dLaw_law_851 (by decide) ?_
  refine gw_iadd CX.1 dLaw_law_852 ?_
  refine gl_sld CX (hin 1 (by decide)) dLaw_law_853 ?_
  refine gw_aload_n CX.1 3 rfl dLaw_law_854 rfl ?_
  refine gw_iload_n CX.1 0 rfl dLaw_law_855 rfl ?_
  refine gw_iconst (v := 2) CX.1 dLaw_law_856 (by decide) ?_
  refine gw_iadd CX.1 dLaw_law_857 ?_
  refine gl_sld CX (hin 2 (by decide)) dLaw_law_858 ?_
  refine gl_call (av := [.int (xs (nI i + 1).toNatClampNeg), .int (xs (nI i + 2).toNatClampNeg)]) (S := []) CX nDesk_sheet ok_Desk_sheet rfl mk_0 rfl rfl wi_Desk_sheet wse_Desk_sheet wini_Desk (Nat.le_of_ble_eq_true rfl) rfl wm_Law_106 dLaw_law_859 (st_sheet F G hR) (fun x F1 G1 H => ?_)
  refine gw_aload_n CX.1 1 rfl dLaw_law_862 rfl ?_
  refine gw_aload_n CX.1 3 rfl dLaw_law_863 rfl ?_
  refine gw_iload_n CX.1 0 rfl dLaw_law_864 rfl ?_
  refine gw_iconst (v := 1) CX.1 dLaw_law_865 (by decide) ?_
  refine gw_iadd CX.1 dLaw_law_866 ?_
  refine gl_sld CX (hin 1 (by decide)) dLaw_law_867 ?_
  refine gw_aload_n CX.1 3 rfl dLaw_law_868 rfl ?_
  refine gw_iload_n CX.1 0 rfl dLaw_law_869 rfl ?_
  refine gw_iconst (v := 2) CX.1 dLaw_law_870 (by decide) ?_
  refine gw_iadd CX.1 dLaw_law_871 ?_
  refine gl_sld CX (hin 2 (by decide)) dLaw_law_872 ?_
  refine gl_call (av := [.int (xs (nI i + 1).toNatClampNeg), .int (xs (nI i + 2).toNatClampNeg)]) (S := [.int x]) CX nModel_sheet ok_Model_sheet rfl mk_38 rfl rfl wi_Model_sheet wse_Model_sheet wini_Model (Nat.le_of_ble_eq_true rfl) rfl wm_Law_109 dLaw_law_873 H (fun y F2 G2 H2 => ?_)
  exact gw_icmp_eq (tgt := 1010) CX.1 dLaw_law_876 (by decide) (fun c => k F2 G2 H2.2) (fun c => absurd H2.1 c)
theorem lw_case_23 (CX : gLX D N xs X) {i : Nat} (hin : ∀ o : Nat, o < 6 → vp_in (nI i + nI o) N) {F : gF} {G : Nat → Int64} (hR : RI F) (k : ∀ F' G', RI F' → GW X nLaw_law 1010 [(3, .int (nI i)), (2, .ref 39), (1, .ref 1), (0, .ref 0)] [] (mk F' G') 60 75283) : GW X nLaw_law 881 [(3, .int (nI i)), (2, .ref 39), (1, .ref 1), (0, .ref 0)] [] (mk F G) 60 75283 := by
  refine gw_aload_n CX.1 2 rfl dLaw_law_881 rfl ?_
  refine gw_aload_n CX.1 3 rfl dLaw_law_882 rfl ?_
  refine gw_iload_n CX.1 0 rfl dLaw_law_883 rfl ?_
  refine gw_iconst (v := 1) CX.1 dLaw_law_884 (by decide) ?_
  refine gw_iadd CX.1 dLaw_law_885 ?_
  refine gl_sld CX (hin 1 (by decide)) dLaw_law_886 ?_
  refine gw_aload_n CX.1 3 rfl dLaw_law_887 rfl ?_
  refine gw_iload_n CX.1 0 rfl dLaw_law_888 rfl ?_
  refine gw_iconst (v := 2) CX.1 dLaw_law_889 (by decide) ?_
  refine gw_iadd CX.1 dLaw_law_890 ?_
  refine gl_sld CX (hin 2 (by decide)) dLaw_law_891 ?_
  refine gw_aload_n CX.1 3 rfl dLaw_law_892 rfl ?_
  refine gw_iload_n CX.1 0 rfl dLaw_law_893 rfl ?_
  refine gw_iconst (v := 3) CX.1 dLaw_law_894 (by decide) ?_
  refine gw_iadd CX.1 dLaw_law_895 ?_
  refine gl_sld CX (hin 3 (by decide)) dLaw_law_896 ?_
  refine gl_call (av := [.int (xs (nI i + 1).toNatClampNeg), .int (xs (nI i + 2).toNatClampNeg), .int (xs (nI i + 3).toNatClampNeg)]) (S := []) CX nDesk_mark ok_Desk_mark rfl mk_0 rfl rfl wi_Desk_mark wse_Desk_mark wini_Desk (Nat.le_of_ble_eq_true rfl) rfl wm_Law_110 dLaw_law_897 (st_mark F G hR) (fun x F1 G1 H => ?_)
  refine gw_aload_n CX.1 1 rfl dLaw_law_900 rfl ?_
  refine gw_aload_n CX.1 3 rfl dLaw_law_901 rfl ?_
  refine gw_iload_n CX.1 0 rfl dLaw_law_902 rfl ?_
  refine gw_iconst (v := 1) CX.1 dLaw_law_903 (by decide) ?_
  refine gw_iadd CX.1 dLaw_law_904 ?_
  refine gl_sld CX (hin 1 (by decide)) dLaw_law_905 ?_
  refine gw_aload_n CX.1 3 rfl dLaw_law_906 rfl ?_
  refine gw_iload_n CX.1 0 rfl dLaw_law_907 rfl ?_
  refine gw_iconst (v := 2) CX.1 dLaw_law_908 (by decide) ?_
  refine gw_iadd CX.1 dLaw_law_909 ?_
  refine gl_sld CX (hin 2 (by decide)) dLaw_law_910 ?_
  refine gw_aload_n CX.1 3 rfl dLaw_law_911 rfl ?_
  refine gw_iload_n CX.1 0 rfl dLaw_law_912 rfl ?_
  refine gw_iconst (v := 3) CX.1 dLaw_law_913 (by decide) ?_
  refine gw_iadd CX.1 dLaw_law_914 ?_
  refine gl_sld CX (hin 3 (by decide)) dLaw_law_915 ?_
  refine gl_call (av := [.int (xs (nI i + 1).toNatClampNeg), .int (xs (nI i + 2).toNatClampNeg), .int (xs (nI i + 3).toNatClampNeg)]) (S := [.int x]) CX nModel_mark ok_Model_mark rfl mk_38 rfl rfl wi_Model_mark wse_Model_mark wini_Model (Nat.le_of_ble_eq_true rfl) rfl wm_Law_113 dLaw_law_916 H (fun y F2 G2 H2 => ?_)
  exact gw_icmp_eq (tgt := 1010) CX.1 dLaw_law_919 (by decide) (fun c => k F2 G2 H2.2) (fun c => absurd H2.1 c)
theorem lw_case_24 (CX : gLX D N xs X) {i : Nat} (hin : ∀ o : Nat, o < 6 → vp_in (nI i + nI o) N) {F : gF} {G : Nat → Int64} (hR : RI F) (k : ∀ F' G', RI F' → GW X nLaw_law 1010 [(3, .int (nI i)), (2, .ref 39), (1, .ref 1), (0, .ref 0)] [] (mk F' G') 60 75283) : GW X nLaw_law 924 [(3, .int (nI i)), (2, .ref 39), (1, .ref 1), (0, .ref 0)] [] (mk F G) 60 75283 := by
  refine gw_aload_n CX.1 2 rfl dLaw_law_924 rfl ?_
  refine gw_aload_n CX.1 3 rfl dLaw_law_925 rfl ?_
  refine gw_iload_n CX.1 0 rfl dLaw_law_926 rfl ?_
  refine gw_iconst (v := 1) CX.1 dLaw_law_927 (by decide) ?_
  refine gw_iadd CX.1 dLaw_law_928 ?_
  refine gl_sld CX (hin 1 (by decide)) dLaw_law_929 ?_
  refine gw_aload_n CX.1 3 rfl dLaw_law_930 rfl ?_
  refine gw_iload_n CX.1 0 rfl dLaw_law_931 rfl ?_
  refine gw_iconst (v := 2) CX.1 dLaw_law_932 (by decide) ?_
  refine gw_iadd CX.1 dLaw_law_933 ?_
  refine gl_sld CX (hin 2 (by decide)) dLaw_law_934 ?_
  refine gw_aload_n CX.1 3 rfl dLaw_law_935 rfl ?_
  refine gw_iload_n CX.1 0 rfl dLaw_law_936 rfl ?_
  refine gw_iconst (v := 3) CX.1 dLaw_law_937 (by decide) ?_
  refine gw_iadd CX.1 dLaw_law_938 ?_
  refine gl_sld CX (hin 3 (by decide)) dLaw_law_939 ?_
  refine gw_aload_n CX.1 3 rfl dLaw_law_940 rfl ?_
  refine gw_iload_n CX.1 0 rfl dLaw_law_941 rfl ?_
  refine gw_iconst (v := 4) CX.1 dLaw_law_942 (by decide) ?_
  refine gw_iadd CX.1 dLaw_law_943 ?_
  refine gl_sld CX (hin 4 (by decide)) dLaw_law_944 ?_
  refine gw_aload_n CX.1 3 rfl dLaw_law_945 rfl ?_
  refine gw_iload_n CX.1 0 rfl dLaw_law_946 rfl ?_
  refine gw_iconst (v := 5) CX.1 dLaw_law_947 (by decide) ?_
  refine gw_iadd CX.1 dLaw_law_948 ?_
  refine gl_sld CX (hin 5 (by decide)) dLaw_law_949 ?_
  refine gl_call (av := [.int (xs (nI i + 1).toNatClampNeg), .int (xs (nI i + 2).toNatClampNeg), .int (xs (nI i + 3).toNatClampNeg), .int (xs (nI i + 4).toNatClampNeg), .int (xs (nI i + 5).toNatClampNeg)]) (S := []) CX nDesk_copy ok_Desk_copy rfl mk_0 rfl rfl wi_Desk_copy wse_Desk_copy wini_Desk (Nat.le_of_ble_eq_true rfl) rfl wm_Law_114 dLaw_law_950 (st_copy F G hR) (fun x F1 G1 H => ?_)
  refine gw_aload_n CX.1 1 rfl dLaw_law_953 rfl ?_
  refine gw_aload_n CX.1 3 rfl dLaw_law_954 rfl ?_
  refine gw_iload_n CX.1 0 rfl dLaw_law_955 rfl ?_
  refine gw_iconst (v := 1) CX.1 dLaw_law_956 (by decide) ?_
  refine gw_iadd CX.1 dLaw_law_957 ?_
  refine gl_sld CX (hin 1 (by decide)) dLaw_law_958 ?_
  refine gw_aload_n CX.1 3 rfl dLaw_law_959 rfl ?_
  refine gw_iload_n CX.1 0 rfl dLaw_law_960 rfl ?_
  refine gw_iconst (v := 2) CX.1 dLaw_law_961 (by decide) ?_
  refine gw_iadd CX.1 dLaw_law_962 ?_
  refine gl_sld CX (hin 2 (by decide)) dLaw_law_963 ?_
  refine gw_aload_n CX.1 3 rfl dLaw_law_964 rfl ?_
  refine gw_iload_n CX.1 0 rfl dLaw_law_965 rfl ?_
  refine gw_iconst (v := 3) CX.1 dLaw_law_966 (by decide) ?_
  refine gw_iadd CX.1 dLaw_law_967 ?_
  refine gl_sld CX (hin 3 (by decide)) dLaw_law_968 ?_
  refine gw_aload_n CX.1 3 rfl dLaw_law_969 rfl ?_
  refine gw_iload_n CX.1 0 rfl dLaw_law_970 rfl ?_
  refine gw_iconst (v := 4) CX.1 dLaw_law_971 (by decide) ?_
  refine gw_iadd CX.1 dLaw_law_972 ?_
  refine gl_sld CX (hin 4 (by decide)) dLaw_law_973 ?_
  refine gw_aload_n CX.1 3 rfl dLaw_law_974 rfl ?_
  refine gw_iload_n CX.1 0 rfl dLaw_law_975 rfl ?_
  refine gw_iconst (v := 5) CX.1 dLaw_law_976 (by decide) ?_
  refine gw_iadd CX.1 dLaw_law_977 ?_
  refine gl_sld CX (hin 5 (by decide)) dLaw_law_978 ?_
  refine gl_call (av := [.int (xs (nI i + 1).toNatClampNeg), .int (xs (nI i + 2).toNatClampNeg), .int (xs (nI i + 3).toNatClampNeg), .int (xs (nI i + 4).toNatClampNeg), .int (xs (nI i + 5).toNatClampNeg)]) (S := [.int x]) CX nModel_copy ok_Model_copy rfl mk_38 rfl rfl wi_Model_copy wse_Model_copy wini_Model (Nat.le_of_ble_eq_true rfl) rfl wm_Law_118 dLaw_law_979 H (fun y F2 G2 H2 => ?_)
  exact gw_icmp_eq (tgt := 1010) CX.1 dLaw_law_982 (by decide) (fun c => k F2 G2 H2.2) (fun c => absurd H2.1 c)
theorem lw_case_25 (CX : gLX D N xs X) {i : Nat} (hin : ∀ o : Nat, o < 6 → vp_in (nI i + nI o) N) {F : gF} {G : Nat → Int64} (hR : RI F) (k : ∀ F' G', RI F' → GW X nLaw_law 1010 [(3, .int (nI i)), (2, .ref 39), (1, .ref 1), (0, .ref 0)] [] (mk F' G') 60 75283) : GW X nLaw_law 987 [(3, .int (nI i)), (2, .ref 39), (1, .ref 1), (0, .ref 0)] [] (mk F G) 60 75283 := by
  refine gw_aload_n CX.1 2 rfl dLaw_law_987 rfl ?_
  refine gw_aload_n CX.1 3 rfl dLaw_law_988 rfl ?_
  refine gw_iload_n CX.1 0 rfl dLaw_law_989 rfl ?_
  refine gw_iconst (v := 1) CX.1 dLaw_law_990 (by decide) ?_
  refine gw_iadd CX.1 dLaw_law_991 ?_
  refine gl_sld CX (hin 1 (by decide)) dLaw_law_992 ?_
  refine gl_call (av := [.int (xs (nI i + 1).toNatClampNeg)]) (S := []) CX nDesk_count ok_Desk_count rfl mk_0 rfl rfl wi_Desk_count wse_Desk_count wini_Desk (Nat.le_of_ble_eq_true rfl) rfl wm_Law_119 dLaw_law_993 (st_count F G hR) (fun x F1 G1 H => ?_)
  refine gw_aload_n CX.1 1 rfl dLaw_law_996 rfl ?_
  refine gw_aload_n CX.1 3 rfl dLaw_law_997 rfl ?_
  refine gw_iload_n CX.1 0 rfl dLaw_law_998 rfl ?_
  refine gw_iconst (v := 1) CX.1 dLaw_law_999 (by decide) ?_
  refine gw_iadd CX.1 dLaw_law_1000 ?_
  refine gl_sld CX (hin 1 (by decide)) dLaw_law_1001 ?_
  refine gl_call (av := [.int (xs (nI i + 1).toNatClampNeg)]) (S := [.int x]) CX nModel_count ok_Model_count rfl mk_38 rfl rfl wi_Model_count wse_Model_count wini_Model (Nat.le_of_ble_eq_true rfl) rfl wm_Law_122 dLaw_law_1002 H (fun y F2 G2 H2 => ?_)
  exact gw_icmp_eq (tgt := 1010) CX.1 dLaw_law_1005 (by decide) (fun c => k F2 G2 H2.2) (fun c => absurd H2.1 c)
theorem lw_switch (CX : gLX D N xs X) {i : Nat} (hin : ∀ o : Nat, o < 6 → vp_in (nI i + nI o) N) {F : gF} {G : Nat → Int64} (hR : RI F) {z : Int32} (k : ∀ F' G', RI F' → GW X nLaw_law 1010 [(3, .int (nI i)), (2, .ref 39), (1, .ref 1), (0, .ref 0)] [] (mk F' G') 60 75283) : GW X nLaw_law 33 [(3, .int (nI i)), (2, .ref 39), (1, .ref 1), (0, .ref 0)] [.int z] (mk F G) 60 75283 := by
  by_cases e0 : z = 0
  · exact gw_tableIn (off := 119) (tgt := 152) CX.1 dLaw_law_33 (by rw [e0]; decide) (by rw [e0]; decide) (by rw [e0]; decide) (by decide) (lw_case_0 CX hin hR k)
  by_cases e1 : z = 1
  · exact gw_tableIn (off := 142) (tgt := 175) CX.1 dLaw_law_33 (by rw [e1]; decide) (by rw [e1]; decide) (by rw [e1]; decide) (by decide) (lw_case_1 CX hin hR k)
  by_cases e2 : z = 2
  · exact gw_tableIn (off := 195) (tgt := 228) CX.1 dLaw_law_33 (by rw [e2]; decide) (by rw [e2]; decide) (by rw [e2]; decide) (by decide) (lw_case_2 CX hin hR k)
  by_cases e3 : z = 3
  · exact gw_tableIn (off := 238) (tgt := 271) CX.1 dLaw_law_33 (by rw [e3]; decide) (by rw [e3]; decide) (by rw [e3]; decide) (by decide) (lw_case_3 CX hin hR k)
  by_cases e4 : z = 4
  · exact gw_tableIn (off := 281) (tgt := 314) CX.1 dLaw_law_33 (by rw [e4]; decide) (by rw [e4]; decide) (by rw [e4]; decide) (by decide) (lw_case_4 CX hin hR k)
  by_cases e5 : z = 5
  · exact gw_tableIn (off := 324) (tgt := 357) CX.1 dLaw_law_33 (by rw [e5]; decide) (by rw [e5]; decide) (by rw [e5]; decide) (by decide) (lw_case_5 CX hin hR k)
  by_cases e6 : z = 6
  · exact gw_tableIn (off := 357) (tgt := 390) CX.1 dLaw_law_33 (by rw [e6]; decide) (by rw [e6]; decide) (by rw [e6]; decide) (by decide) (lw_case_6 CX hin hR k)
  by_cases e7 : z = 7
  · exact gw_tableIn (off := 390) (tgt := 423) CX.1 dLaw_law_33 (by rw [e7]; decide) (by rw [e7]; decide) (by rw [e7]; decide) (by decide) (lw_case_7 CX hin hR k)
  by_cases e8 : z = 8
  · exact gw_tableIn (off := 423) (tgt := 456) CX.1 dLaw_law_33 (by rw [e8]; decide) (by rw [e8]; decide) (by rw [e8]; decide) (by decide) (lw_case_8 CX hin hR k)
  by_cases e9 : z = 9
  · exact gw_tableIn (off := 456) (tgt := 489) CX.1 dLaw_law_33 (by rw [e9]; decide) (by rw [e9]; decide) (by rw [e9]; decide) (by decide) (lw_case_9 CX hin hR k)
  by_cases e10 : z = 10
  · exact gw_tableIn (off := 489) (tgt := 522) CX.1 dLaw_law_33 (by rw [e10]; decide) (by rw [e10]; decide) (by rw [e10]; decide) (by decide) (lw_case_10 CX hin hR k)
  by_cases e11 : z = 11
  · exact gw_tableIn (off := 522) (tgt := 555) CX.1 dLaw_law_33 (by rw [e11]; decide) (by rw [e11]; decide) (by rw [e11]; decide) (by decide) (lw_case_11 CX hin hR k)
  by_cases e12 : z = 12
  · exact gw_tableIn (off := 565) (tgt := 598) CX.1 dLaw_law_33 (by rw [e12]; decide) (by rw [e12]; decide) (by rw [e12]; decide) (by decide) (lw_case_12 CX hin hR k)
  by_cases e13 : z = 13
  · exact gw_tableIn (off := 588) (tgt := 621) CX.1 dLaw_law_33 (by rw [e13]; decide) (by rw [e13]; decide) (by rw [e13]; decide) (by decide) (lw_case_13 CX hin hR k)
  by_cases e14 : z = 14
  · exact gw_tableIn (off := 621) (tgt := 654) CX.1 dLaw_law_33 (by rw [e14]; decide) (by rw [e14]; decide) (by rw [e14]; decide) (by decide) (lw_case_14 CX hin hR k)
  by_cases e15 : z = 15
  · exact gw_tableIn (off := 644) (tgt := 677) CX.1 dLaw_law_33 (by rw [e15]; decide) (by rw [e15]; decide) (by rw [e15]; decide) (by decide) (lw_case_15 CX hin hR k)
  by_cases e16 : z = 16
  · exact gw_tableIn (off := 667) (tgt := 700) CX.1 dLaw_law_33 (by rw [e16]; decide) (by rw [e16]; decide) (by rw [e16]; decide) (by decide) (lw_case_16 CX hin hR k)
  by_cases e17 : z = 17
  · exact gw_tableIn (off := 690) (tgt := 723) CX.1 dLaw_law_33 (by rw [e17]; decide) (by rw [e17]; decide) (by rw [e17]; decide) (by decide) (lw_case_17 CX hin hR k)
  by_cases e18 : z = 18
  · exact gw_tableIn (off := 713) (tgt := 746) CX.1 dLaw_law_33 (by rw [e18]; decide) (by rw [e18]; decide) (by rw [e18]; decide) (by decide) (lw_case_18 CX hin hR k)
  by_cases e19 : z = 19
  · exact gw_tableIn (off := 746) (tgt := 779) CX.1 dLaw_law_33 (by rw [e19]; decide) (by rw [e19]; decide) (by rw [e19]; decide) (by decide) (lw_case_19 CX hin hR k)
  by_cases e20 : z = 20
  · exact gw_tableIn (off := 779) (tgt := 812) CX.1 dLaw_law_33 (by rw [e20]; decide) (by rw [e20]; decide) (by rw [e20]; decide) (by decide) (lw_case_20 CX hin hR k)
  by_cases e21 : z = 21
  · exact gw_tableIn (off := 792) (tgt := 825) CX.1 dLaw_law_33 (by rw [e21]; decide) (by rw [e21]; decide) (by rw [e21]; decide) (by decide) (lw_case_21 CX hin hR k)
  by_cases e22 : z = 22
  · exact gw_tableIn (off := 815) (tgt := 848) CX.1 dLaw_law_33 (by rw [e22]; decide) (by rw [e22]; decide) (by rw [e22]; decide) (by decide) (lw_case_22 CX hin hR k)
  by_cases e23 : z = 23
  · exact gw_tableIn (off := 848) (tgt := 881) CX.1 dLaw_law_33 (by rw [e23]; decide) (by rw [e23]; decide) (by rw [e23]; decide) (by decide) (lw_case_23 CX hin hR k)
  by_cases e24 : z = 24
  · exact gw_tableIn (off := 891) (tgt := 924) CX.1 dLaw_law_33 (by rw [e24]; decide) (by rw [e24]; decide) (by rw [e24]; decide) (by decide) (lw_case_24 CX hin hR k)
  by_cases e25 : z = 25
  · exact gw_tableIn (off := 954) (tgt := 987) CX.1 dLaw_law_33 (by rw [e25]; decide) (by rw [e25]; decide) (by rw [e25]; decide) (by decide) (lw_case_25 CX hin hR k)
  have n0 := lv_neT (a := 0) e0 (by decide)
  have n1 := lv_neT (a := 1) e1 (by decide)
  have n2 := lv_neT (a := 2) e2 (by decide)
  have n3 := lv_neT (a := 3) e3 (by decide)
  have n4 := lv_neT (a := 4) e4 (by decide)
  have n5 := lv_neT (a := 5) e5 (by decide)
  have n6 := lv_neT (a := 6) e6 (by decide)
  have n7 := lv_neT (a := 7) e7 (by decide)
  have n8 := lv_neT (a := 8) e8 (by decide)
  have n9 := lv_neT (a := 9) e9 (by decide)
  have n10 := lv_neT (a := 10) e10 (by decide)
  have n11 := lv_neT (a := 11) e11 (by decide)
  have n12 := lv_neT (a := 12) e12 (by decide)
  have n13 := lv_neT (a := 13) e13 (by decide)
  have n14 := lv_neT (a := 14) e14 (by decide)
  have n15 := lv_neT (a := 15) e15 (by decide)
  have n16 := lv_neT (a := 16) e16 (by decide)
  have n17 := lv_neT (a := 17) e17 (by decide)
  have n18 := lv_neT (a := 18) e18 (by decide)
  have n19 := lv_neT (a := 19) e19 (by decide)
  have n20 := lv_neT (a := 20) e20 (by decide)
  have n21 := lv_neT (a := 21) e21 (by decide)
  have n22 := lv_neT (a := 22) e22 (by decide)
  have n23 := lv_neT (a := 23) e23 (by decide)
  have n24 := lv_neT (a := 24) e24 (by decide)
  have n25 := lv_neT (a := 25) e25 (by decide)
  exact gw_tableOut (tgt := 1010) CX.1 dLaw_law_33 (by omega) (by decide) (k F G hR)
theorem lw_far {N i : Nat} (hN : N ≤ 3072) (hi : i ≤ N + 6) (h : N < i + 6) : nI N - 6 < nI i := by
  rw [Int32.lt_iff_toInt_lt]
  have e1 : (nI i).toInt = (i : Int) := nI_toInt (by omega)
  have e2 : (nI N - 6).toInt = (N : Int) - 6 := by
    rw [Int32.toInt_sub, nI_toInt (show N < 2 ^ 31 by omega), show (6 : Int32).toInt = 6 from by decide]
    apply Int.bmod_eq_of_le <;> omega
  rw [e1, e2]
  omega
theorem lw_loop (CX : gLX D N xs X) (hN : N ≤ 3072) : ∀ n i, N + 1 ≤ i + n → i ≤ N + 6 → ∀ (F : gF) (G : Nat → Int64), RI F → GW X nLaw_law 18 [(3, .int (nI i)), (2, .ref 39), (1, .ref 1), (0, .ref 0)] [] (mk F G) 60 75283 := by
  intro n
  induction n with
  | zero =>
    intro i h1 h2 F G hR
    refine gw_iload_n CX.1 0 rfl dLaw_law_18 rfl ?_
    refine gw_aload_n CX.1 3 rfl dLaw_law_19 rfl ?_
    refine gl_slen CX dLaw_law_20 ?_
    refine gw_bipush (v := 6) CX.1 dLaw_law_21 (by decide) ?_
    refine gw_isub CX.1 dLaw_law_23 ?_
    refine gw_icmp_gt (tgt := 1016) CX.1 dLaw_law_24 (by decide) (fun c => ?_) (fun c => absurd (lw_far hN h2 (by omega)) c)
    refine gw_iconst (v := 1) CX.1 dLaw_law_1016 (by decide) ?_
    exact gl_ret CX (by decide) (by decide) dLaw_law_1017
  | succ n ih =>
    intro i h1 h2 F G hR
    refine gw_iload_n CX.1 0 rfl dLaw_law_18 rfl ?_
    refine gw_aload_n CX.1 3 rfl dLaw_law_19 rfl ?_
    refine gl_slen CX dLaw_law_20 ?_
    refine gw_bipush (v := 6) CX.1 dLaw_law_21 (by decide) ?_
    refine gw_isub CX.1 dLaw_law_23 ?_
    refine gw_icmp_gt (tgt := 1016) CX.1 dLaw_law_24 (by decide) (fun c => ?_) (fun c => ?_)
    · refine gw_iconst (v := 1) CX.1 dLaw_law_1016 (by decide) ?_
      exact gl_ret CX (by decide) (by decide) dLaw_law_1017
    · have h6 : i + 6 ≤ N := by
        rcases Nat.lt_or_ge N (i + 6) with z | z
        · exact absurd (lw_far hN h2 z) c
        · exact z
      have hin : ∀ o : Nat, o < 6 → vp_in (nI i + nI o) N := fun o ho => by
        rw [nI_add]
        exact vp_in_nI (by omega) (by omega)
      have hx := ix1 (n := N) (c := i) (by omega) (by omega)
      refine gw_aload_n CX.1 3 rfl dLaw_law_27 rfl ?_
      refine gw_iload_n CX.1 0 rfl dLaw_law_28 rfl ?_
      refine gl_sld CX hx.1 dLaw_law_29 ?_
      refine gw_bipush (v := 31) CX.1 dLaw_law_30 (by decide) ?_
      refine gw_iand CX.1 dLaw_law_32 ?_
      refine lw_switch CX hin hR (fun F' G' hR' => ?_)
      refine gw_iinc (v := nI (i + 6)) CX.1 0 rfl dLaw_law_1010 (by rw [← nI_add]; rfl) (by decide) rfl ?_
      refine gw_goto (tgt := 18) CX.1 dLaw_law_1013 (by decide) ?_
      exact ih (i + 6) (by omega) (by omega) F' G' hR'
theorem am_Model_init {d : Nat} : AM D (d + 1) nModel_init [.ref 39] (hDsk ++ [.inr (7, [.int 0, .null, .null, .null, .null, .null, .int 0, .null, .null, .null, .null, .null, .null, .null, .int 0, .int 0, .null, .null, .null, .null, .null, .null, .int 0, .int 0, .int 0, .null, .null, .null])]) (gPv (fun F' _ => RI F')) := by
  refine aw_Model_init ?_
  show AWk D (d + 1) nModel_init 174 [(0, .ref 39)] [] gF00 (fun _ => 0) (fun F' _ => RI F')
  exact m_init1 (fun F' f0 f1 f2 f3 f4 f5 f6 f7 => RI_start f0 f1 f2 f3 f4 f5 f6 f7)
theorem lw_start (CX : gLX D N xs X) (hN : N ≤ 3072) : GW X nLaw_law 0 [(0, .ref 0)] [] [] 0 0 := by
  refine gw_new (ci := 6) (fs := [.null, .null, .null, .null, .null, .null]) CX.1 rfl gi_SwingDesk gt_SwingDesk gty_SwingDesk wk_Law_7 wn_Desk wini_Desk df_Desk (fun _ => ⟨rfl,rfl,rfl,rfl,rfl,rfl, trivial⟩) (gLX_room CX (by decide) (by decide)) dLaw_law_0 ?_
  show GW X nLaw_law 3 [(0, .ref 0)] [.ref 1] [.inr (6, [.null, .null, .null, .null, .null, .null])] 1 6
  refine gw_dup CX.1 dLaw_law_3 rfl ?_
  refine gw_callI (d := 30) (av := []) (S := [.ref 1]) (q := 1) (Q := fun r h => r = none ∧ h = hDsk) CX.1 nDesk_init ok_Desk_init rfl rfl wm_Law_9 wi_Desk_init rfl wini_Desk (Nat.le_of_ble_eq_true rfl) (gLX_fit CX (by decide) (by decide)) dLaw_law_4 (gLX_am CX (am_Desk_init ⟨rfl, rfl⟩)) (fun r h e => ?_)
  obtain ⟨rfl, rfl⟩ := e
  show GW X nLaw_law 7 [(0, .ref 0)] [.ref 1] hDsk 38 1941
  refine gw_astore_n CX.1 dLaw_law_7 rfl (by decide) rfl ?_
  refine gw_new (ci := 7) (fs := [.int 0, .null, .null, .null, .null, .null, .int 0, .null, .null, .null, .null, .null, .null, .null, .int 0, .int 0, .null, .null, .null, .null, .null, .null, .int 0, .int 0, .int 0, .null, .null, .null]) CX.1 rfl gi_SwingDeskModel gt_SwingDeskModel gty_SwingDeskModel wk_Law_10 wn_Model wini_Model df_Model (fun _ => ⟨rfl,rfl,rfl,rfl,rfl,rfl,rfl,rfl,rfl,rfl,rfl,rfl,rfl,rfl,rfl,rfl,rfl,rfl,rfl,rfl,rfl,rfl,rfl,rfl,rfl,rfl,rfl,rfl, trivial⟩) (gLX_room CX (by decide) (by decide)) dLaw_law_8 ?_
  show GW X nLaw_law 11 [(1, .ref 1), (0, .ref 0)] [.ref 39] (hDsk ++ [.inr (7, [.int 0, .null, .null, .null, .null, .null, .int 0, .null, .null, .null, .null, .null, .null, .null, .int 0, .int 0, .null, .null, .null, .null, .null, .null, .int 0, .int 0, .int 0, .null, .null, .null])]) 39 1969
  refine gw_dup CX.1 dLaw_law_11 rfl ?_
  refine gw_callI (d := 30) (av := []) (S := [.ref 39]) (q := 39) (Q := gPv (fun F' _ => RI F')) CX.1 nModel_init ok_Model_init rfl rfl wm_Law_12 wi_Model_init rfl wini_Model (Nat.le_of_ble_eq_true rfl) (gLX_fit CX (by decide) (by decide)) dLaw_law_12 (gLX_am CX am_Model_init) (fun r h e => ?_)
  obtain ⟨F', G', rfl, rfl, hF⟩ := e
  show GW X nLaw_law 15 [(1, .ref 1), (0, .ref 0)] [.ref 39] (mk F' G') 60 75283
  refine gw_astore_n CX.1 dLaw_law_15 rfl (by decide) rfl ?_
  refine gw_iconst (v := 0) CX.1 dLaw_law_16 (by decide) ?_
  refine gw_istore_n CX.1 dLaw_law_17 rfl (by decide) rfl ?_
  exact lw_loop CX hN (N + 1) 0 (by omega) (by omega) F' _ hF
end GLAW
theorem gN_start {args : Array Value} {s : State} (hts : ∀ w ∈ lw_tbl, w.before args s = true) : gN s := by
  refine ⟨fun w hw => ?_, va_AO.of (hts _ gAO_in)⟩
  have h1 := hts w (gNest_in w hw)
  simp only [gNest, List.mem_cons, List.not_mem_nil, or_false] at hw
  rcases hw with rfl | rfl | rfl | rfl | rfl <;> exact va_Nw.of rfl h1
theorem gK_start {args : Array Value} {s : State} (hts : ∀ w ∈ gT, w.before args s = true) : ∃ D : va_G, va_K D gcl [] s := by
  obtain ⟨c0, i0, h0⟩ := u_known (C := gR_CastSearch) (T := gF_CastSearch) (N := 14) (n := 14) hts gi_CastSearch (hts _ wn_CastSearch)
  obtain ⟨c1, i1, h1⟩ := u_known (C := gR_Company) (T := gF_Company) (N := 9) (n := 9) hts gi_Company (hts _ wn_Company)
  obtain ⟨c2, i2, h2⟩ := u_known (C := gR_Night) (T := gF_Night) (N := 5) (n := 5) hts gi_Night (hts _ wn_Night)
  obtain ⟨c3, i3, h3⟩ := u_known (C := gR_PutIns) (T := gF_PutIns) (N := 7) (n := 7) hts gi_PutIns (hts _ wn_PutIns)
  obtain ⟨c4, i4, h4⟩ := u_known (C := gR_Sheet) (T := gF_Sheet) (N := 2) (n := 2) hts gi_Sheet (hts _ wn_Sheet)
  obtain ⟨c5, i5, h5⟩ := u_known (C := gR_Show) (T := gF_Show) (N := 6) (n := 6) hts gi_Show (hts _ wn_Show)
  obtain ⟨c6, i6, h6⟩ := u_known (C := gR_SwingDesk) (T := gF_SwingDesk) (N := 6) (n := 6) hts gi_SwingDesk (hts _ wn_Desk)
  obtain ⟨c7, i7, h7⟩ := u_known (C := gR_SwingDeskModel) (T := gF_SwingDeskModel) (N := 28) (n := 28) hts gi_SwingDeskModel (hts _ wn_Model)
  refine ⟨(fun k => match k with
    | 0 => c0
    | 1 => c1
    | 2 => c2
    | 3 => c3
    | 4 => c4
    | 5 => c5
    | 6 => c6
    | _ => c7, fun k => match k with
    | 0 => i0
    | 1 => i1
    | 2 => i2
    | 3 => i3
    | 4 => i4
    | 5 => i5
    | 6 => i6
    | _ => i7), fun k q hq => ?_, fun k q h => by simp at h⟩
  match k, hq with
  | 0, hq => cases hq; exact h0
  | 1, hq => cases hq; exact h1
  | 2, hq => cases hq; exact h2
  | 3, hq => cases hq; exact h3
  | 4, hq => cases hq; exact h4
  | 5, hq => cases hq; exact h5
  | 6, hq => cases hq; exact h6
  | 7, hq => cases hq; exact h7
  | k + 8, hq => simp [gcl] at hq
/-- YOUR PART: from the entry, for every script of at most 3072 ints, the law comes to its end with true -/
theorem whole_start {p : Program} {e : Env} {s : State} {m : MethodId} {below : List Frame} {meth : Method} {c : Code} (l : Launch) {b L : Nat} {xs : Nat → Int32} (hL : L ≤ 3072) (C0 : lw_At p s m meth c b L xs) : W p l e room_1 s m #[Value.ref b] below meth c s.heap [] 0 0 (lw_Z below #[Value.ref b] s) (entryFrame m ([Value.ref b] : List Value).toArray 4) := by
  obtain ⟨hx, hb, hr, hml, hown, hts, hX, hbl, hlocks, hgv⟩ := C0
  have htg : ∀ w ∈ gT, w.before #[Value.ref b] s = true := fun w hw => hts w (List.mem_filter.mp hw).1
  obtain ⟨D, hK⟩ := gK_start htg
  have hl := lv_entry ([.ref b]) (n := 4) (Nat.le_of_ble_eq_true rfl)
  rw [lg_entry_eq]
  have g := lw_start (D := D) (N := L) (xs := xs) (X := ((p, l, e, room_1, s, m, #[Value.ref b], below), (meth, c, D, b, (fun q : Nat => s.heap.size ≤ q), [], lw_Z below #[Value.ref b] s))) ⟨⟨hx, hb, hml, hown, htg, gN_start hts, hK, fun q hq => hq⟩, rfl, rfl, hr, hlocks, hX, hbl, rfl, rfl, rfl⟩ hL
  exact g [] s.heap [] _ [] ⟨fun k q h => by simp at h, ⟨fun i j p q h => by simp at h, fun k q h => by simp at h⟩, va_S.rf, ⟨rfl, fun k x h => by simp at h⟩, List.prefix_rfl, ⟨_, hl, ⟨rfl, b, rfl, rfl⟩, trivial⟩, trivial⟩
-- ===== the same for every law =====
set_option maxHeartbeats 4000000 in
theorem lw_walk (l : Launch) (b : Addr) (xs : List Int32) : MetFree l x (headSpec (Jvm.Cond.code x code maxLocals ret :: tables_1) room_1) (lw_P b xs) (fun _ _ _ _ _ => True) lw_Q := by
  refine MetFree.of_bodyS (code := code) (maxLocals := maxLocals) (ret := ret) (by decide) ?_ ?_
  · intro args s m h hn
    obtain ⟨meth, c, h1, h2, h3, h4, h5, h6, -, -⟩ := Cond.code_spec hn (atoms_spec (ws := Jvm.Cond.code x code maxLocals ret :: tables_1) h _ List.mem_cons_self)
    exact ⟨meth, c, h1, h2, h3, h4, h5, h6⟩
  · intro p e s m args below meth c s₁ B hml0 hP _
    obtain ⟨rfl, hx, hbd, hgv⟩ := hP
    obtain ⟨scr, harrAt, hlist, hof, hsmall⟩ := hx
    obtain ⟨hcb, hkn, -, -⟩ := State.arrayAt?_spec harrAt
    have hown : s.vm.findClass R_law = some m.cls := findClass_of_methodNamed B.named
    have hts0 : ∀ c ∈ (Jvm.Cond.code x code maxLocals ret :: tables_1), c.before #[Value.ref b] s = true := atoms_spec (ws := Jvm.Cond.code x code maxLocals ret :: tables_1) B.pre
    have hts : ∀ w ∈ lw_tbl, w.before #[Value.ref b] s = true := k2_hts_sels lw_privs (fun w hw => hts0 w (List.mem_cons_of_mem _ hw)) lw_privs_ok
    have hml : c.maxLocals = 4 := B.maxLocals_eq (hts0 _ List.mem_cons_self)
    have X₀ : Stand p l e room_1 s m #[Value.ref b] below meth c s₁ [] 0 0 := Stand.of_body B
    have hh0 : s₁.heap = s.heap := by rw [B.state]; rfl
    have hsz : scr.slots.size = xs.length := by rw [← Array.length_toList, hlist, List.length_map]
    have hval : ∀ j : Nat, j < xs.length → scr.slots[j]? = some (.int (xs.getD j 0)) := fun j hj => by
      rw [← Array.getElem?_toList, hlist]
      simp [hj]
    have hbl : b < s.heap.size := (Array.getElem?_eq_some_iff.mp hcb).1
    have hX : va_X b xs.length (fun j => xs.getD j 0) s s.heap := ⟨scr, hcb, hof, hkn, hsz, hval⟩
    have K : W p l e room_1 s m #[Value.ref b] below meth c s₁.heap [] 0 0 (lw_Z below #[Value.ref b] s) (entryFrame m ([Value.ref b] : List Value).toArray 4) := by
      rw [hh0]
      exact whole_start l hbd ⟨B.exec, B.bytes, B.returns, hml, hown, hts, hX, hbl, B.notSynchronized, hgv⟩
    obtain ⟨t, a1, o, b1, b2, b3⟩ := K s₁ rfl X₀
    exact ⟨t, o, a1, b1, b2, b3⟩
theorem lw_pre_spec {args : Array Value} {s : State} (h : (Jvm.Cond.and given_1 narrow_1).before args s = true) (hr : rest_1_c.before args s = true) : ∃ (b : Addr) (xs : List Int32), lw_P b xs args s := by
  have hs := flat_of_before _ h
  have hq := flat_of_before _ hr
  have hc : (Cond.count 1).before args s = true := hs _ (by decide +kernel)
  have harr : (Cond.arrayOf (.arg 0) .int).before args s = true := hs _ (by decide +kernel)
  have hle : (Cond.le (.length (.arg 0)) (.int 3072)).before args s = true := hs _ (by decide +kernel)
  have hlen : (Cond.isInt (.length (.arg 0))).before args s = true := hq _ (by decide +kernel)
  have hall : (Cond.all (.arg 0) (.isInt (.elem (.arg 0) (.index 0)))).before args s = true := hq _ (by decide +kernel)
  obtain ⟨b, xs, hb, hx⟩ := State.ints_of_pre rfl harr hlen hall
  have hsm : xs.length < 2 ^ 31 := hx.choose_spec.2.2.2
  have hev : (Term.length (.arg 0)).eval args s none [] s = some (.int xs.length.toInt32) := hx.length_eval hb
  have hv := Cond.le_ints hev (show (Term.int 3072).eval args s none [] s = some (.int 3072) from rfl)
  have hd : xs.length.toInt32 ≤ 3072 := by
    simpa [Cond.before, Cond.holds, hv] using hle
  have hN : xs.length ≤ 3072 := (Int32.ofNat_le_ofNat hsm (by decide)).mp (show Int32.ofNat xs.length ≤ Int32.ofNat 3072 from hd)
  exact ⟨b, xs, Cond.one_arg hc (show args[0]? = some (.ref b) from hb), hx, hN, h⟩
theorem lw_comes (l : Launch) : Comes l x (Jvm.Cond.code x code maxLocals ret :: tables_1) room_1 (fun tb e args s => Calls_1 tb e args s ∧ rest_1 tb e args s ∧ Pre_1 tb e args s)
    (fun _ _ args s o t => lw_Q args s o t) := by
  intro p e ha hc hk s m args below hf hfit hheap happ hpre
  obtain ⟨b, xs, hP⟩ := lw_pre_spec hpre.2.2 hpre.2.1
  obtain ⟨k, o, h1, h2, h3, hQ⟩ := lw_walk l b xs p e ha hc hk s m args below hf ((Spec.applies_iff_loose hf).mp happ).1 hP trivial
  exact ⟨k, o, h1, h2, h3, hQ⟩
theorem lw_frame {s t : State} {o : Outcome} {args : Array Value} (h : Framed s o t [] 600000 7302250) :
    Framed s o t (fieldLocs frame_1_writes args s ++ arrayLocs frame_1_arrays args s ++ staticLocs frame_1_statics s) 600000 7302250 := h
theorem lw_limb (L : Cond) (hL : ∀ (args : Array Value) (s t : State), L.after args s (.returned (some (.int 1))) t = true) :
    ArmFor flags0 classFile x code maxLocals ret World_1 tables_1 room_1 Calls_1 rest_1 Pre_1
      (fun tb e a s o t => postC L tb e a s o t ∧ Framed s o t (fieldLocs frame_1_writes a s ++ arrayLocs frame_1_arrays a s ++ staticLocs frame_1_statics s) 600000 7302250) := by
  intro l _ _ _ p e ha hc hk s m args below hf hfit hheap happ hpre
  obtain ⟨k, o, h1, h2, h3, rfl, hF⟩ := lw_comes l p e ha hc hk s m args below hf hfit hheap happ hpre
  exact ⟨k, _, h1, h2, h3, hL args s _, lw_frame hF⟩
theorem i_vc : Claimed_1_1 ∧ Claimed_1_2 := ⟨lw_limb limb_1_1 (fun args s t => by simp [limb_1_1, Cond.after, Cond.holds, Cond.value]), lw_limb limb_1_2 (fun args s t => Cond.after_iff.mpr (by
  first | (rw [show limb_1_2 = Cond.eq .result (.int 1) from rfl, Cond.eq_ints (x := 1) (y := 1) rfl rfl]; simp; done) | (simp [limb_1_2, Cond.value, Term.eval]; done)))⟩
