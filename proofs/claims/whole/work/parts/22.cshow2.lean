/-! THE SHOW: what changes it -/
theorem up_same (F : gF) (k i : Nat) (x : Int32) : up F k i x k = upd (F k) i x := upA_same _ _ _
theorem up_ne (F : gF) {k j : Nat} (i : Nat) (x : Int32) (h : j ≠ k) : up F k i x j = F j := upA_ne _ _ h
theorem upS_same (F : gF) (k : Nat) (x : Int32) : upS F k x k = fun _ => x := upA_same _ _ _
theorem upS_ne (F : gF) {k j : Nat} (x : Int32) (h : j ≠ k) : upS F k x j = F j := upA_ne _ _ h
def Fr (ks : List Nat) (F F' : gF) : Prop := ∀ k, k ∉ ks → F' k = F k
theorem Fr.rf {ks : List Nat} {F : gF} : Fr ks F F := fun _ _ => rfl
theorem Fr.tr {ks js : List Nat} {F F' F2 : gF} (h : Fr ks F F') (h2 : Fr js F' F2) : Fr (ks ++ js) F F2 := fun k hk => (h2 k (fun z => hk (List.mem_append_right _ z))).trans (h k (fun z => hk (List.mem_append_left _ z)))
theorem Fr.sub {ks js : List Nat} {F F' : gF} (h : Fr ks F F') (hs : ∀ k ∈ ks, k ∈ js) : Fr js F F' := fun k hk => h k (fun z => hk (hs k z))
theorem Fr.one {k : Nat} {F : gF} {f : Nat → Int32} : Fr [k] F (upA F k f) := fun j hj => upA_ne F f (fun e => hj (by rw [e]; exact List.mem_cons_self))
theorem Fr.up {ks : List Nat} {k : Nat} {F F' : gF} {f : Nat → Int32} (h : Fr ks F F') (hk : k ∈ ks) : Fr ks F (upA F' k f) := fun j hj => (upA_ne F' f (fun e => hj (by rw [e]; exact hk))).trans (h j hj)
def clr (lf : Nat → Option (Nat × Nat)) (t c : Nat) : Nat → Option (Nat × Nat) := match lf c with
  | none => lf
  | some (a, b) => if a = t ∨ b = t then up1 lf c none else lf
section CSHOW2
variable {D : va_G} {d : Nat} {Q : Int32 → gF → (Nat → Int64) → Prop} {Qv : gF → (Nat → Int64) → Prop} {F F' : gF} {G : Nat → Int64} {T : Nat} {dr : Nat → Nat} {pl : Nat → Nat → Option Nat} {mu : Nat → Nat → Bool} {lf : Nat → Option (Nat × Nat)}
theorem CSh_fr {ks : List Nat} (hf : Fr ks F F') (hd : ∀ k ∈ [2, 3, 4, 5, 6, 100], k ∉ ks) (s : CSh T dr pl mu lf F) : CSh T dr pl mu lf F' := by
  obtain ⟨h1, h2, h3, h4, h5, h6, h7⟩ := s
  refine ⟨h1, ?_, ?_, ?_, ?_, ?_, ?_⟩
  · rw [hf 100 (hd 100 (by decide))]; exact h2
  · rw [hf 2 (hd 2 (by decide))]; exact h3
  · rw [hf 3 (hd 3 (by decide))]; exact h4
  · rw [hf 4 (hd 4 (by decide))]; exact h5
  · rw [hf 5 (hd 5 (by decide))]; exact h6
  · rw [hf 6 (hd 6 (by decide))]; exact h7
theorem c_setLift1 (s : CSh T dr pl mu lf F) {c : Nat} (hc : c < 30) (v : Option (Nat × Nat)) (h : ∀ F', CSh T dr pl mu (up1 lf c v) F' → Fr [5, 6] F F' → Qv F' G) : AMv D (d + 2) nShow_setLift [.ref 2, .int (nI c), .int (oN (v.map Prod.fst)), .int (oN (v.map Prod.snd))] F G Qv := by
  refine eShow_setLift (c_isCue1 hc ⟨fun e => absurd e ne10, fun _ => ⟨(ix1 hc (by omega)).1, (ix1 hc (by omega)).1, ?_⟩⟩)
  rw [(ix1 hc (by omega)).2]
  refine h _ ?_ ((Fr.rf.up (by decide)).up (by decide))
  obtain ⟨h1, h2, h3, h4, h5, h6, h7⟩ := s
  refine ⟨h1, h2, h3, h4, h5, fun j hj => ?_, fun j hj => ?_⟩
  · rw [up_ne _ _ _ (by decide), up_same, upd_i, up1]
    split
    · rfl
    · exact h6 j hj
  · rw [up_same, upd_i, up_ne _ _ _ (by decide), up1]
    split
    · rfl
    · exact h7 j hj
theorem CSh_place (s : CSh T dr pl mu lf F) {t c : Nat} (ht : t < 8) (hc : c < 30) (o : Option Nat) (b : Bool) : CSh T dr (up2 pl t c o) (up2 mu t c b) lf (up (up F 3 (t * 30 + c) (oN o)) 4 (t * 30 + c) (bI b)) := by
  obtain ⟨h1, h2, h3, h4, h5, h6, h7⟩ := s
  have key : ∀ t' c', t' < 8 → c' < 30 → (t' * 30 + c' = t * 30 + c ↔ t' = t ∧ c' = c) := by
    intro t' c' q1 q2
    omega
  refine ⟨h1, h2, h3, fun t' c' q1 q2 => ?_, fun t' c' q1 q2 => ?_, h6, h7⟩
  · rw [up_ne _ _ _ (by decide), up_same, upd_i, up2]
    by_cases e : t' = t ∧ c' = c
    · rw [if_pos ((key t' c' q1 q2).mpr e), if_pos e]
    · rw [if_neg (fun z => e ((key t' c' q1 q2).mp z)), if_neg e]
      exact h4 t' c' q1 q2
  · rw [up_same, upd_i, up_ne _ _ _ (by decide), up2]
    by_cases e : t' = t ∧ c' = c
    · rw [if_pos ((key t' c' q1 q2).mpr e), if_pos e]
    · rw [if_neg (fun z => e ((key t' c' q1 q2).mp z)), if_neg e]
      exact h5 t' c' q1 q2
theorem c_put45 (s : CSh T dr pl mu lf F) {t c : Nat} (ht : t < T) (hc : c < 30) (o : Option Nat) (ho : ∀ k, o = some k → k < 2 ^ 31) (b : Bool) (h : ∀ F', CSh T dr (up2 pl t c o) (up2 mu t c (o.isSome && b)) lf F' → Fr [3, 4] F F' → Qv F' G) : AWv D (d + 1) nShow_put 45 [(0, .ref 2), (1, .int (nI t)), (2, .int (nI c)), (3, .int (oN o)), (4, .int (bI b))] [] F G Qv := by
  have hT := s.1
  obtain ⟨e1, e2⟩ := ix30 (t := t) (c := c) (by omega) hc
  have hs := CSh_place s (t := t) (c := c) (by omega) hc o (o.isSome && b)
  refine bShow_put_45 ⟨e1, fun q => ⟨e1, ?_⟩, fun q => ⟨e1, ?_⟩⟩
  · rw [e2]
    refine h _ ?_ ((Fr.rf.up (by decide)).up (by decide))
    rw [oN_N ho] at q
    cases o with
    | none => exact absurd rfl q
    | some k => exact hs
  · rw [e2]
    refine h _ ?_ ((Fr.rf.up (by decide)).up (by decide))
    rw [oN_N ho] at q
    subst q
    exact hs
theorem c_put1 (s : CSh T dr pl mu lf F) (w : WSh T dr pl mu lf) {t c : Nat} (ht : t < T) (hc : c < 30) (o : Option Nat) (ho : ∀ k, o = some k → k < 2 ^ 31) (b : Bool) (h : ∀ F', CSh T dr (up2 pl t c o) (up2 mu t c (o.isSome && b)) (clr lf t c) F' → Fr [3, 4, 5, 6] F F' → Qv F' G) : AMv D (d + 3) nShow_put [.ref 2, .int (nI t), .int (nI c), .int (oN o), .int (bI b)] F G Qv := by
  have hT := s.1
  have go36 : up1 lf c none = clr lf t c → AWv D (d + 3) nShow_put 36 [(0, .ref 2), (1, .int (nI t)), (2, .int (nI c)), (3, .int (oN o)), (4, .int (bI b))] [] F G Qv := by
    intro he
    refine bShow_put_36 (c_setLift1 s hc none (fun F1 s1 f1 => ?_))
    rw [he] at s1
    exact c_put45 s1 ht hc o ho b (fun F2 s2 f2 => h F2 s2 ((f1.tr f2).sub (by decide)))
  have go45 : lf = clr lf t c → AWv D (d + 3) nShow_put 45 [(0, .ref 2), (1, .int (nI t)), (2, .int (nI c)), (3, .int (oN o)), (4, .int (bI b))] [] F G Qv := by
    intro he
    have s1 := s
    rw [he] at s1
    exact c_put45 s1 ht hc o ho b (fun F2 s2 f2 => h F2 s2 (f2.sub (by decide)))
  refine eShow_put (c_isTrack1 s ht ⟨fun e => absurd e ne10, fun _ => c_isCue1 hc ⟨fun _ => ⟨(ix1 hc (by omega)).1, ?_⟩, fun e => absurd e ne10⟩⟩)
  rw [(ix1 hc (by omega)).2, s.2.2.2.2.2.1 c hc, oN_eq (by omega) (fun k hk => lfS s w hk), s.2.2.2.2.2.2 c hc, oN_eq (by omega) (fun k hk => lgS s w hk)]
  unfold clr at go36 go45
  cases hl : lf c with
  | none =>
    rw [hl] at go45
    exact ⟨fun e => (by cases e), fun _ => ⟨(ix1 hc (by omega)).1, fun _ => go45 rfl, fun e => (by cases e)⟩⟩
  | some q =>
    obtain ⟨a, b'⟩ := q
    rw [hl] at go36 go45
    dsimp only at go36 go45
    refine ⟨fun e => ?_, fun e => ⟨(ix1 hc (by omega)).1, fun e2 => ?_, fun e2 => ?_⟩⟩
    · have e1 : a = t := by cases e; rfl
      exact go36 (by rw [if_pos (Or.inl e1)])
    · exact go45 (by rw [if_neg (by rintro (z | z) <;> (subst z; first | exact e rfl | exact e2 rfl))])
    · have e1 : b' = t := by cases e2; rfl
      exact go36 (by rw [if_pos (Or.inr e1)])
theorem c_addTrack1 (s : CSh T dr pl mu lf F) {g : Nat} (h1 : T < 8 → ∀ F', CSh (T + 1) (up1 dr T g) pl mu lf F' → Fr [2, 100] F F' → Q (nI T) F' G) (h0 : T = 8 → Q (-1000000003) F G) : AMi D (d + 1) nShow_addTrack [.ref 2, .int (nI g)] F G Q := by
  obtain ⟨q1, q2, q3, q4, q5, q6, q7⟩ := s
  refine eShow_addTrack ?_
  rw [q2, l8, nI_ltI (by omega) (by omega)]
  refine ⟨fun ht => ⟨(ix1 ht (by omega)).1, ?_⟩, fun ht => h0 (by omega)⟩
  rw [(ix1 (n := 8) ht (by omega)).2, upS_same, up_ne _ _ _ (by decide), q2, nI_1, nI_pred]
  refine h1 ht _ ⟨by omega, by rw [upS_same], fun t' ht' => ?_, q4, q5, q6, q7⟩ ((Fr.rf.up (by decide)).up (by decide))
  rw [upS_ne _ _ (by decide), up_same, upd_i, up1]
  by_cases e : t' = T
  · rw [if_pos e, if_pos e]
  · rw [if_neg e, if_neg e]
    exact q3 t' (by omega)
end CSHOW2
