/-! THE MODEL'S CONSTRUCTOR: its loops; the start -/
def AWk (D : va_G) (d : Nat) (N : gMd) (pc : Nat) (L : List (Nat × Value)) (S : List Value) (F : Nat → Nat → Int32) (G : Nat → Int64) (Q : (Nat → Nat → Int32) → (Nat → Int64) → Prop) : Prop := AW D d N pc L S (mk F G) 21 73314 (gPv Q)
theorem bModel_init_174 {D : va_G} {d : Nat} {Q : (Nat → Nat → Int32) → (Nat → Int64) → Prop} {F : Nat → Nat → Int32} {G : Nat → Int64} (H : AWk D (d + 1) nModel_init 176 [(0, .ref 39), (1, .int 0)] [] F G Q) : AWk D (d + 1) nModel_init 174 [(0, .ref 39)] [] F G Q := by
  intro X CX
  refine gw_iconst (v := 0) CX.1 dModel_init_174 (by decide) ?_
  refine gw_istore_n CX.1 dModel_init_175 rfl (by decide) rfl ?_
  exact gw_sub [1, 0] rfl (H X CX)
theorem bModel_init_176 {D : va_G} {d : Nat} {Q : (Nat → Nat → Int32) → (Nat → Int64) → Prop} {F : Nat → Nat → Int32} {G : Nat → Int64} {x1 : Int32} (H : ((240 ≤ x1 → AWk D (d + 1) nModel_init 205 [(0, .ref 39), (1, .int 0)] [] F G Q) ∧ (¬ (240 ≤ x1) → vp_in x1 240 ∧ vp_in x1 240 ∧ AWk D (d + 1) nModel_init 176 [(0, .ref 39), (1, .int (x1 + 1))] [] (up (up F 40 (x1.toNatClampNeg) (-1)) 52 (x1.toNatClampNeg) (-1)) G Q))) : AWk D (d + 1) nModel_init 176 [(0, .ref 39), (1, .int x1)] [] F G Q := by
  intro X CX
  refine gw_iload_n CX.1 1 rfl dModel_init_176 rfl ?_
  refine gw_sipush (v := 240) CX.1 dModel_init_177 (by decide) ?_
  refine gw_icmp_ge (tgt := 203) CX.1 dModel_init_180 (by decide) (fun c => ?_) (fun c => ?_)
  · replace H := H.1 c
    refine gw_iconst (v := 0) CX.1 dModel_init_203 (by decide) ?_
    refine gw_istore_n CX.1 dModel_init_204 rfl (by decide) rfl ?_
    exact gw_sub [1, 0] rfl (H X CX)
  · replace H := H.2 c
    refine gw_aload_n CX.1 0 rfl dModel_init_183 rfl ?_
    refine gg_Model_13 CX.1 rfl dModel_init_184 ?_
    refine gw_iload_n CX.1 1 rfl dModel_init_187 rfl ?_
    refine gw_iconst (v := (-1)) CX.1 dModel_init_188 (by decide) ?_
    obtain ⟨hin, H⟩ := H
    refine gs_40 CX.1 hin dModel_init_189 ?_
    refine gw_aload_n CX.1 0 rfl dModel_init_190 rfl ?_
    refine gg_Model_49 CX.1 rfl dModel_init_191 ?_
    refine gw_iload_n CX.1 1 rfl dModel_init_194 rfl ?_
    refine gw_iconst (v := (-1)) CX.1 dModel_init_195 (by decide) ?_
    obtain ⟨hin, H⟩ := H
    refine gs_52 CX.1 hin dModel_init_196 ?_
    refine gw_iinc (v := (x1 + 1)) CX.1 1 rfl dModel_init_197 rfl (by decide) rfl ?_
    refine gw_goto (tgt := 176) CX.1 dModel_init_200 (by decide) ?_
    exact gw_sub [1, 0] rfl (H X CX)
theorem bModel_init_205 {D : va_G} {d : Nat} {Q : (Nat → Nat → Int32) → (Nat → Int64) → Prop} {F : Nat → Nat → Int32} {G : Nat → Int64} {x1 : Int32} (H : ((30 ≤ x1 → AWk D (d + 1) nModel_init 226 [(0, .ref 39), (1, .int 0)] [] F G Q) ∧ (¬ (30 ≤ x1) → vp_in x1 30 ∧ AWk D (d + 1) nModel_init 205 [(0, .ref 39), (1, .int (x1 + 1))] [] (up F 42 (x1.toNatClampNeg) (-1)) G Q))) : AWk D (d + 1) nModel_init 205 [(0, .ref 39), (1, .int x1)] [] F G Q := by
  intro X CX
  refine gw_iload_n CX.1 1 rfl dModel_init_205 rfl ?_
  refine gw_bipush (v := 30) CX.1 dModel_init_206 (by decide) ?_
  refine gw_icmp_ge (tgt := 224) CX.1 dModel_init_208 (by decide) (fun c => ?_) (fun c => ?_)
  · replace H := H.1 c
    refine gw_iconst (v := 0) CX.1 dModel_init_224 (by decide) ?_
    refine gw_istore_n CX.1 dModel_init_225 rfl (by decide) rfl ?_
    exact gw_sub [1, 0] rfl (H X CX)
  · replace H := H.2 c
    refine gw_aload_n CX.1 0 rfl dModel_init_211 rfl ?_
    refine gg_Model_19 CX.1 rfl dModel_init_212 ?_
    refine gw_iload_n CX.1 1 rfl dModel_init_215 rfl ?_
    refine gw_iconst (v := (-1)) CX.1 dModel_init_216 (by decide) ?_
    obtain ⟨hin, H⟩ := H
    refine gs_42 CX.1 hin dModel_init_217 ?_
    refine gw_iinc (v := (x1 + 1)) CX.1 1 rfl dModel_init_218 rfl (by decide) rfl ?_
    refine gw_goto (tgt := 205) CX.1 dModel_init_221 (by decide) ?_
    exact gw_sub [1, 0] rfl (H X CX)
theorem bModel_init_226 {D : va_G} {d : Nat} {Q : (Nat → Nat → Int32) → (Nat → Int64) → Prop} {F : Nat → Nat → Int32} {G : Nat → Int64} {x1 : Int32} (H : ((100 ≤ x1 → AWk D (d + 1) nModel_init 247 [(0, .ref 39), (1, .int 0)] [] F G Q) ∧ (¬ (100 ≤ x1) → vp_in x1 100 ∧ AWk D (d + 1) nModel_init 226 [(0, .ref 39), (1, .int (x1 + 1))] [] (up F 48 (x1.toNatClampNeg) (-1)) G Q))) : AWk D (d + 1) nModel_init 226 [(0, .ref 39), (1, .int x1)] [] F G Q := by
  intro X CX
  refine gw_iload_n CX.1 1 rfl dModel_init_226 rfl ?_
  refine gw_bipush (v := 100) CX.1 dModel_init_227 (by decide) ?_
  refine gw_icmp_ge (tgt := 245) CX.1 dModel_init_229 (by decide) (fun c => ?_) (fun c => ?_)
  · replace H := H.1 c
    refine gw_iconst (v := 0) CX.1 dModel_init_245 (by decide) ?_
    refine gw_istore_n CX.1 dModel_init_246 rfl (by decide) rfl ?_
    exact gw_sub [1, 0] rfl (H X CX)
  · replace H := H.2 c
    refine gw_aload_n CX.1 0 rfl dModel_init_232 rfl ?_
    refine gg_Model_37 CX.1 rfl dModel_init_233 ?_
    refine gw_iload_n CX.1 1 rfl dModel_init_236 rfl ?_
    refine gw_iconst (v := (-1)) CX.1 dModel_init_237 (by decide) ?_
    obtain ⟨hin, H⟩ := H
    refine gs_48 CX.1 hin dModel_init_238 ?_
    refine gw_iinc (v := (x1 + 1)) CX.1 1 rfl dModel_init_239 rfl (by decide) rfl ?_
    refine gw_goto (tgt := 226) CX.1 dModel_init_242 (by decide) ?_
    exact gw_sub [1, 0] rfl (H X CX)
theorem bModel_init_247 {D : va_G} {d : Nat} {Q : (Nat → Nat → Int32) → (Nat → Int64) → Prop} {F : Nat → Nat → Int32} {G : Nat → Int64} {x1 : Int32} (H : ((80 ≤ x1 → AWk D (d + 1) nModel_init 268 [(0, .ref 39), (1, .int 0)] [] F G Q) ∧ (¬ (80 ≤ x1) → vp_in x1 80 ∧ AWk D (d + 1) nModel_init 247 [(0, .ref 39), (1, .int (x1 + 1))] [] (up F 47 (x1.toNatClampNeg) (-1)) G Q))) : AWk D (d + 1) nModel_init 247 [(0, .ref 39), (1, .int x1)] [] F G Q := by
  intro X CX
  refine gw_iload_n CX.1 1 rfl dModel_init_247 rfl ?_
  refine gw_bipush (v := 80) CX.1 dModel_init_248 (by decide) ?_
  refine gw_icmp_ge (tgt := 266) CX.1 dModel_init_250 (by decide) (fun c => ?_) (fun c => ?_)
  · replace H := H.1 c
    refine gw_iconst (v := 0) CX.1 dModel_init_266 (by decide) ?_
    refine gw_istore_n CX.1 dModel_init_267 rfl (by decide) rfl ?_
    exact gw_sub [1, 0] rfl (H X CX)
  · replace H := H.2 c
    refine gw_aload_n CX.1 0 rfl dModel_init_253 rfl ?_
    refine gg_Model_34 CX.1 rfl dModel_init_254 ?_
    refine gw_iload_n CX.1 1 rfl dModel_init_257 rfl ?_
    refine gw_iconst (v := (-1)) CX.1 dModel_init_258 (by decide) ?_
    obtain ⟨hin, H⟩ := H
    refine gs_47 CX.1 hin dModel_init_259 ?_
    refine gw_iinc (v := (x1 + 1)) CX.1 1 rfl dModel_init_260 rfl (by decide) rfl ?_
    refine gw_goto (tgt := 247) CX.1 dModel_init_263 (by decide) ?_
    exact gw_sub [1, 0] rfl (H X CX)
theorem bModel_init_268 {D : va_G} {d : Nat} {Q : (Nat → Nat → Int32) → (Nat → Int64) → Prop} {F : Nat → Nat → Int32} {G : Nat → Int64} {x1 : Int32} (H : ((8 ≤ x1 → Q (up (up F 53 ((0 : Int32).toNatClampNeg) (-1)) 53 ((1 : Int32).toNatClampNeg) (-1)) G) ∧ (¬ (8 ≤ x1) → vp_in x1 8 ∧ AWk D (d + 1) nModel_init 268 [(0, .ref 39), (1, .int (x1 + 1))] [] (up F 51 (x1.toNatClampNeg) (-1)) G Q))) : AWk D (d + 1) nModel_init 268 [(0, .ref 39), (1, .int x1)] [] F G Q := by
  intro X CX
  refine gw_iload_n CX.1 1 rfl dModel_init_268 rfl ?_
  refine gw_bipush (v := 8) CX.1 dModel_init_269 (by decide) ?_
  refine gw_icmp_ge (tgt := 287) CX.1 dModel_init_271 (by decide) (fun c => ?_) (fun c => ?_)
  · replace H := H.1 c
    refine gw_aload_n CX.1 0 rfl dModel_init_287 rfl ?_
    refine gg_Model_52 CX.1 rfl dModel_init_288 ?_
    refine gw_iconst (v := 0) CX.1 dModel_init_291 (by decide) ?_
    refine gw_iconst (v := (-1)) CX.1 dModel_init_292 (by decide) ?_
    refine gs_53 CX.1 (vp_in_iff.mpr (by decide)) dModel_init_293 ?_
    refine gw_aload_n CX.1 0 rfl dModel_init_294 rfl ?_
    refine gg_Model_52 CX.1 rfl dModel_init_295 ?_
    refine gw_iconst (v := 1) CX.1 dModel_init_298 (by decide) ?_
    refine gw_iconst (v := (-1)) CX.1 dModel_init_299 (by decide) ?_
    refine gs_53 CX.1 (vp_in_iff.mpr (by decide)) dModel_init_300 ?_
    exact gw_vret CX rfl ⟨_, _, rfl, rfl, H⟩ (Nat.le_of_ble_eq_true rfl) (Nat.le_of_ble_eq_true rfl) dModel_init_301
  · replace H := H.2 c
    refine gw_aload_n CX.1 0 rfl dModel_init_274 rfl ?_
    refine gg_Model_46 CX.1 rfl dModel_init_275 ?_
    refine gw_iload_n CX.1 1 rfl dModel_init_278 rfl ?_
    refine gw_iconst (v := (-1)) CX.1 dModel_init_279 (by decide) ?_
    obtain ⟨hin, H⟩ := H
    refine gs_51 CX.1 hin dModel_init_280 ?_
    refine gw_iinc (v := (x1 + 1)) CX.1 1 rfl dModel_init_281 rfl (by decide) rfl ?_
    refine gw_goto (tgt := 268) CX.1 dModel_init_284 (by decide) ?_
    exact gw_sub [1, 0] rfl (H X CX)
section GSTART
variable {D : va_G} {d : Nat} {Qv : gF → (Nat → Int64) → Prop} {F : gF} {G : Nat → Int64}
theorem m_init1 (h : ∀ F', Fr [40, 42, 47, 48, 51, 52, 53] F F' → (∀ j, j < 240 → F' 40 j = -1) → (∀ j, j < 240 → F' 52 j = -1) → (∀ j, j < 30 → F' 42 j = -1) → (∀ j, j < 100 → F' 48 j = -1) → (∀ j, j < 80 → F' 47 j = -1) → (∀ j, j < 8 → F' 51 j = -1) → (∀ j, j < 2 → F' 53 j = -1) → Qv F' G) : AWk D (d + 1) nModel_init 174 [(0, .ref 39)] [] F G Qv := by
  refine bModel_init_174 ?_
  have k5 : ∀ n i F1, i + n = 8 → Fr [40, 42, 47, 48, 51, 52, 53] F F1 → (∀ j, j < 240 → F1 40 j = -1) → (∀ j, j < 240 → F1 52 j = -1) → (∀ j, j < 30 → F1 42 j = -1) → (∀ j, j < 100 → F1 48 j = -1) → (∀ j, j < 80 → F1 47 j = -1) → (∀ j, j < i → F1 51 j = -1) → AWk D (d + 1) nModel_init 268 [(0, .ref 39), (1, .int (nI i))] [] F1 G Qv := by
    intro n
    induction n with
    | zero =>
      intro i F1 hi f0 f1 f2 f3 f4 f5 f6
      refine bModel_init_268 ⟨fun _ => ?_, fun e => absurd (by rw [show i = 8 by omega]; decide) e⟩
      refine h _ ((f0.up (by decide)).up (by decide)) (fun j hj => ?_) (fun j hj => ?_) (fun j hj => ?_) (fun j hj => ?_) (fun j hj => ?_) (fun j hj => ?_) (fun j hj => ?_)
      · rw [up_i, if_neg (by decide), up_i, if_neg (by decide)]; exact f1 j hj
      · rw [up_i, if_neg (by decide), up_i, if_neg (by decide)]; exact f2 j hj
      · rw [up_i, if_neg (by decide), up_i, if_neg (by decide)]; exact f3 j hj
      · rw [up_i, if_neg (by decide), up_i, if_neg (by decide)]; exact f4 j hj
      · rw [up_i, if_neg (by decide), up_i, if_neg (by decide)]; exact f5 j hj
      · rw [up_i, if_neg (by decide), up_i, if_neg (by decide)]; exact f6 j (by omega)
      · rw [up_i, if_pos rfl]
        split
        · rfl
        · rename_i hne
          have hne : j ≠ 1 := hne
          have h0 : j = 0 := by omega
          subst h0
          rw [up_i, if_pos rfl]
          exact if_pos rfl
    | succ n ih =>
      intro i F1 hi f0 f1 f2 f3 f4 f5 f6
      have hx := ix1 (n := 8) (c := i) (by omega) (by omega)
      refine bModel_init_268 ⟨fun e => absurd e (by rw [l8, nI_leI (by omega) (by omega)]; omega), fun _ => ⟨hx.1, ?_⟩⟩
      rw [hx.2, nI_1 i]
      refine ih (i + 1) _ (by omega) (f0.up (by decide)) (fun j hj => ?_) (fun j hj => ?_) (fun j hj => ?_) (fun j hj => ?_) (fun j hj => ?_) (fun j hj => ?_)
      · rw [up_i, if_neg (by decide)]; exact f1 j hj
      · rw [up_i, if_neg (by decide)]; exact f2 j hj
      · rw [up_i, if_neg (by decide)]; exact f3 j hj
      · rw [up_i, if_neg (by decide)]; exact f4 j hj
      · rw [up_i, if_neg (by decide)]; exact f5 j hj
      · rw [up_i, if_pos rfl]
        by_cases e : j = i
        · rw [if_pos e]
        · rw [if_neg e]; exact f6 j (by omega)
  have k4 : ∀ n i F1, i + n = 80 → Fr [40, 42, 47, 48, 51, 52, 53] F F1 → (∀ j, j < 240 → F1 40 j = -1) → (∀ j, j < 240 → F1 52 j = -1) → (∀ j, j < 30 → F1 42 j = -1) → (∀ j, j < 100 → F1 48 j = -1) → (∀ j, j < i → F1 47 j = -1) → AWk D (d + 1) nModel_init 247 [(0, .ref 39), (1, .int (nI i))] [] F1 G Qv := by
    intro n
    induction n with
    | zero =>
      intro i F1 hi f0 f1 f2 f3 f4 f5
      exact bModel_init_247 ⟨fun _ => k5 8 0 F1 (by omega) f0 f1 f2 f3 f4 (fun j hj => f5 j (by omega)) (fun j hj => absurd hj (by omega)), fun e => absurd (by rw [show i = 80 by omega]; decide) e⟩
    | succ n ih =>
      intro i F1 hi f0 f1 f2 f3 f4 f5
      have hx := ix1 (n := 80) (c := i) (by omega) (by omega)
      refine bModel_init_247 ⟨fun e => absurd e (by rw [show (80 : Int32) = nI 80 from rfl, nI_leI (by omega) (by omega)]; omega), fun _ => ⟨hx.1, ?_⟩⟩
      rw [hx.2, nI_1 i]
      refine ih (i + 1) _ (by omega) (f0.up (by decide)) (fun j hj => ?_) (fun j hj => ?_) (fun j hj => ?_) (fun j hj => ?_) (fun j hj => ?_)
      · rw [up_i, if_neg (by decide)]; exact f1 j hj
      · rw [up_i, if_neg (by decide)]; exact f2 j hj
      · rw [up_i, if_neg (by decide)]; exact f3 j hj
      · rw [up_i, if_neg (by decide)]; exact f4 j hj
      · rw [up_i, if_pos rfl]
        by_cases e : j = i
        · rw [if_pos e]
        · rw [if_neg e]; exact f5 j (by omega)
  have k3 : ∀ n i F1, i + n = 100 → Fr [40, 42, 47, 48, 51, 52, 53] F F1 → (∀ j, j < 240 → F1 40 j = -1) → (∀ j, j < 240 → F1 52 j = -1) → (∀ j, j < 30 → F1 42 j = -1) → (∀ j, j < i → F1 48 j = -1) → AWk D (d + 1) nModel_init 226 [(0, .ref 39), (1, .int (nI i))] [] F1 G Qv := by
    intro n
    induction n with
    | zero =>
      intro i F1 hi f0 f1 f2 f3 f4
      exact bModel_init_226 ⟨fun _ => k4 80 0 F1 (by omega) f0 f1 f2 f3 (fun j hj => f4 j (by omega)) (fun j hj => absurd hj (by omega)), fun e => absurd (by rw [show i = 100 by omega]; decide) e⟩
    | succ n ih =>
      intro i F1 hi f0 f1 f2 f3 f4
      have hx := ix1 (n := 100) (c := i) (by omega) (by omega)
      refine bModel_init_226 ⟨fun e => absurd e (by rw [show (100 : Int32) = nI 100 from rfl, nI_leI (by omega) (by omega)]; omega), fun _ => ⟨hx.1, ?_⟩⟩
      rw [hx.2, nI_1 i]
      refine ih (i + 1) _ (by omega) (f0.up (by decide)) (fun j hj => ?_) (fun j hj => ?_) (fun j hj => ?_) (fun j hj => ?_)
      · rw [up_i, if_neg (by decide)]; exact f1 j hj
      · rw [up_i, if_neg (by decide)]; exact f2 j hj
      · rw [up_i, if_neg (by decide)]; exact f3 j hj
      · rw [up_i, if_pos rfl]
        by_cases e : j = i
        · rw [if_pos e]
        · rw [if_neg e]; exact f4 j (by omega)
  have k2 : ∀ n i F1, i + n = 30 → Fr [40, 42, 47, 48, 51, 52, 53] F F1 → (∀ j, j < 240 → F1 40 j = -1) → (∀ j, j < 240 → F1 52 j = -1) → (∀ j, j < i → F1 42 j = -1) → AWk D (d + 1) nModel_init 205 [(0, .ref 39), (1, .int (nI i))] [] F1 G Qv := by
    intro n
    induction n with
    | zero =>
      intro i F1 hi f0 f1 f2 f3
      exact bModel_init_205 ⟨fun _ => k3 100 0 F1 (by omega) f0 f1 f2 (fun j hj => f3 j (by omega)) (fun j hj => absurd hj (by omega)), fun e => absurd (by rw [show i = 30 by omega]; decide) e⟩
    | succ n ih =>
      intro i F1 hi f0 f1 f2 f3
      have hx := ix1 (n := 30) (c := i) (by omega) (by omega)
      refine bModel_init_205 ⟨fun e => absurd e (by rw [l30, nI_leI (by omega) (by omega)]; omega), fun _ => ⟨hx.1, ?_⟩⟩
      rw [hx.2, nI_1 i]
      refine ih (i + 1) _ (by omega) (f0.up (by decide)) (fun j hj => ?_) (fun j hj => ?_) (fun j hj => ?_)
      · rw [up_i, if_neg (by decide)]; exact f1 j hj
      · rw [up_i, if_neg (by decide)]; exact f2 j hj
      · rw [up_i, if_pos rfl]
        by_cases e : j = i
        · rw [if_pos e]
        · rw [if_neg e]; exact f3 j (by omega)
  have k1 : ∀ n i F1, i + n = 240 → Fr [40, 42, 47, 48, 51, 52, 53] F F1 → (∀ j, j < i → F1 40 j = -1) → (∀ j, j < i → F1 52 j = -1) → AWk D (d + 1) nModel_init 176 [(0, .ref 39), (1, .int (nI i))] [] F1 G Qv := by
    intro n
    induction n with
    | zero =>
      intro i F1 hi f0 f1 f2
      exact bModel_init_176 ⟨fun _ => k2 30 0 F1 (by omega) f0 (fun j hj => f1 j (by omega)) (fun j hj => f2 j (by omega)) (fun j hj => absurd hj (by omega)), fun e => absurd (by rw [show i = 240 by omega]; decide) e⟩
    | succ n ih =>
      intro i F1 hi f0 f1 f2
      have hx := ix1 (n := 240) (c := i) (by omega) (by omega)
      refine bModel_init_176 ⟨fun e => absurd e (by rw [show (240 : Int32) = nI 240 from rfl, nI_leI (by omega) (by omega)]; omega), fun _ => ⟨hx.1, hx.1, ?_⟩⟩
      rw [hx.2, nI_1 i]
      refine ih (i + 1) _ (by omega) ((f0.up (by decide)).up (by decide)) (fun j hj => ?_) (fun j hj => ?_)
      · rw [up_i, if_neg (by decide), up_i, if_pos rfl]
        by_cases e : j = i
        · rw [if_pos e]
        · rw [if_neg e]; exact f1 j (by omega)
      · rw [up_i, if_pos rfl]
        by_cases e : j = i
        · rw [if_pos e]
        · rw [if_neg e, up_i, if_neg (by decide)]; exact f2 j (by omega)
  exact k1 240 0 F (by omega) Fr.rf (fun j hj => absurd hj (by omega)) (fun j hj => absurd hj (by omega))
def gF00 : gF := fun k => match k with
  | 3 => gFl (fun _ => 0) (-1000000005) 240
  | 5 => gFl (fun _ => 0) (-1000000005) 30
  | 6 => gFl (fun _ => 0) (-1000000005) 30
  | 10 => gFl (fun _ => 0) (-1000000005) 10
  | 11 => gFl (fun _ => 0) (-1) 80
  | 12 => gFl (fun _ => 0) (-1) 100
  | 14 => gFl (fun _ => 0) 30 10
  | 16 => gFl (fun _ => 0) (-1000000005) 8
  | 17 => gFl (fun _ => 0) (-1000000005) 240
  | 108 => fun _ => -1
  | 109 => fun _ => -1
  | _ => fun _ => 0
theorem gFl_at {v : Int32} {n j : Nat} (h : j < n) : gFl (fun _ => (0 : Int32)) v n j = v := by unfold gFl; exact if_pos h
theorem RI_start {F' : gF} (f0 : Fr [40, 42, 47, 48, 51, 52, 53] gF00 F') (f1 : ∀ j, j < 240 → F' 40 j = -1) (f2 : ∀ j, j < 240 → F' 52 j = -1) (f3 : ∀ j, j < 30 → F' 42 j = -1) (f4 : ∀ j, j < 100 → F' 48 j = -1) (f5 : ∀ j, j < 80 → F' 47 j = -1) (f6 : ∀ j, j < 8 → F' 51 j = -1) (f7 : ∀ j, j < 2 → F' 53 j = -1) : RI F' := by
  refine ⟨0, fun _ => 0, fun _ _ => none, fun _ _ => false, fun _ => none, 0, 0, fun _ => 0, fun _ => 0, fun _ => none, fun _ _ => none, fun _ _ => none, fun _ => 0, fun _ => 30, false, fun _ => none, fun _ _ => none, fun _ => none, fun _ _ => 0, ⟨?_, ?_, ?_⟩, ⟨?_, ?_, ?_⟩, ⟨?_, ?_, ?_⟩, ⟨?_, ?_, ?_⟩⟩
  · refine ⟨by omega, by rw [f0 100 (by decide)]; rfl, fun t ht => absurd ht (by omega), fun t c ht hc => ?_, fun t c ht hc => ?_, fun c hc => ?_, fun c hc => ?_⟩
    · rw [f0 3 (by decide)]; exact gFl_at (by omega)
    · rw [f0 4 (by decide)]; rfl
    · rw [f0 5 (by decide)]; exact gFl_at (by omega)
    · rw [f0 6 (by decide)]; exact gFl_at (by omega)
  · refine ⟨by omega, by rw [f0 110 (by decide)]; rfl, fun t ht => absurd ht (by omega), fun t c ht hc => f1 _ (by omega), fun t c ht hc => ?_, fun c hc => f3 c hc, fun c a b hc e => (by cases e)⟩
    rw [f0 41 (by decide)]; rfl
  · exact ⟨fun t ht => absurd ht (by omega), fun t c k e => (by cases e), fun t c e => (by cases e), fun c a b e => (by cases e)⟩
  · refine ⟨by omega, by rw [f0 101 (by decide)]; rfl, by omega, by rw [f0 102 (by decide)]; rfl, fun t ht => absurd ht (by omega), fun t ht => absurd ht (by omega), fun p hp => ?_, fun p t hp ht => ?_, fun p q hp hq => ?_, fun p hp => ?_, fun p hp => ?_⟩
    · rw [f0 10 (by decide)]; exact gFl_at (by omega)
    · rw [f0 11 (by decide)]; exact gFl_at (by omega)
    · rw [f0 12 (by decide)]; exact gFl_at (by omega)
    · rw [f0 13 (by decide)]; rfl
    · rw [f0 14 (by decide)]; exact gFl_at (by omega)
  · refine ⟨by omega, by rw [f0 111 (by decide)]; rfl, by omega, by rw [f0 112 (by decide)]; rfl, fun t ht => absurd ht (by omega), fun t ht => absurd ht (by omega), fun t ht => absurd ht (by omega), fun p t hp ht => f5 _ (by omega), fun p q hp hq => f4 _ (by omega), fun p hp => ?_, fun t ht => absurd ht (by omega)⟩
    rw [f0 49 (by decide)]; rfl
  · exact ⟨fun t ht => absurd ht (by omega), fun t ht => absurd ht (by omega), fun p t e => (by cases e), fun p q t e => (by cases e), fun p t y e => (by cases e), fun p t y e => (by cases e), fun p => rfl, fun p => Nat.one_pos, fun p q => by simp, fun p => by simp, fun p => Nat.le_refl 30, fun p _ => rfl⟩
  · refine ⟨by rw [f0 103 (by decide)]; rfl, fun t ht => ?_, fun e => (by cases e)⟩
    rw [f0 16 (by decide)]; exact gFl_at (by omega)
  · exact ⟨by rw [f0 113 (by decide)]; rfl, fun e => (by cases e), fun e => (by cases e)⟩
  · exact ⟨fun _ _ => rfl, fun t p e => (by cases e), fun e => (by cases e)⟩
  · exact ⟨by rw [f0 108 (by decide)]; rfl, by rw [f0 109 (by decide)]; rfl, fun n i e => (by cases e), fun n i e => (by cases e), fun i => by rw [f0 35 (by decide)]; rfl, fun i => by rw [f0 37 (by decide)]; rfl⟩
  · exact ⟨fun s hs => f7 s hs, fun s n i _ e => (by cases e)⟩
  · exact fun s n e => (by cases e)
end GSTART
