/-! the model's put; the pictures of night and sheets; what both sides hold of one world -/
section MPUT
variable {D : va_G} {d : Nat} {Q : Int32 → gF → (Nat → Int64) → Prop} {Qv : gF → (Nat → Int64) → Prop} {F F' : gF} {G : Nat → Int64} {T : Nat} {dr : Nat → Nat} {pl : Nat → Nat → Option Nat} {mu : Nat → Nat → Bool} {lf : Nat → Option (Nat × Nat)}
theorem MSh_place (s : MSh T dr pl mu lf F) {t c : Nat} (ht : t < 8) (hc : c < 30) (o : Option Nat) (b : Bool) : MSh T dr (up2 pl t c o) (up2 mu t c b) lf (up (up F 40 (t * 30 + c) (oM o)) 41 (t * 30 + c) (bI b)) := by
  obtain ⟨h1, h2, h3, h4, h5, h6, h7⟩ := s
  have key : ∀ t' c', t' < 8 → c' < 30 → (t' * 30 + c' = t * 30 + c ↔ t' = t ∧ c' = c) := by
    intro t' c' q1 q2
    omega
  refine ⟨h1, h2, h3, fun t' c' q1 q2 => ?_, fun t' c' q1 q2 => ?_, h6, h7⟩
  · rw [up_ne _ _ _ (by decide), up_same, upd_i, up2]
    by_cases e : t' = t ∧ c' = c
    · rw [if_pos ((key t' c' q1 q2).mpr e), if_pos e]
    · rw [if_neg (fun z => e ((key t' c' q1 q2).mp z)), if_neg e]
      exact h4 t' c' q1 q2
  · rw [up_same, upd_i, up_ne _ _ _ (by decide), up2]
    by_cases e : t' = t ∧ c' = c
    · rw [if_pos ((key t' c' q1 q2).mpr e), if_pos e]
    · rw [if_neg (fun z => e ((key t' c' q1 q2).mp z)), if_neg e]
      exact h5 t' c' q1 q2
theorem MSh_unlift (s : MSh T dr pl mu lf F) {c : Nat} : MSh T dr pl mu (up1 lf c none) (up F 42 c (-1)) := by
  obtain ⟨h1, h2, h3, h4, h5, h6, h7⟩ := s
  refine ⟨h1, h2, h3, h4, h5, fun j hj => ?_, fun j a b hj hl => ?_⟩
  · rw [up_same, upd_i, up1]
    split
    · rfl
    · exact h6 j hj
  · rw [up1] at hl
    split at hl
    · cases hl
    · rw [up_ne _ _ _ (by decide)]
      exact h7 j a b hj hl
theorem mlfS (s : MSh T dr pl mu lf F) (w : WSh T dr pl mu lf) {c k : Nat} (h : (lf c).map Prod.fst = some k) : k < 2 ^ 31 := by
  have := s.1
  cases hl : lf c with
  | none => rw [hl] at h; cases h
  | some q => rw [hl] at h; cases h; have := w.2.2.2 c q.1 q.2 hl; omega
theorem m_put32 (s : MSh T dr pl mu lf F) (w : WSh T dr pl mu lf) {t c : Nat} (ht : t < T) (hc : c < 30) {x3 x4 : Int32} (o : Option Nat) (b : Bool) (h : ∀ F', MSh T dr (up2 pl t c o) (up2 mu t c b) (clr lf t c) F' → Fr [40, 41, 42] F F' → Qv F' G) : AWv D (d + 1) nModel_put 32 [(0, .ref 39), (1, .int (nI t)), (2, .int (nI c)), (3, .int x3), (4, .int x4)] [.int (bI b), .int (30 * nI t + nI c), .ref 42] (up F 40 (t * 30 + c) (oM o)) G Qv := by
  have hT := s.1
  obtain ⟨e1, e2⟩ := jx30 (t := t) (c := c) (by omega) hc
  have hi := ix1 (n := 30) hc (by omega)
  have hs := MSh_place s (t := t) (c := c) (by omega) hc o b
  have hf : Fr [40, 41, 42] F (up (up F 40 (t * 30 + c) (oM o)) 41 (t * 30 + c) (bI b)) := (Fr.rf.up (by decide)).up (by decide)
  have h42 := hs.2.2.2.2.2.1 c hc
  have h43 := fun a b => hs.2.2.2.2.2.2 c a b hc
  generalize hF1 : up (up F 40 (t * 30 + c) (oM o)) 41 (t * 30 + c) (bI b) = F1 at hs hf h42 h43
  refine bModel_put_32 ⟨e1, hi.1, ?_⟩
  rw [e2, hi.2, hF1, h42, oM_eq (by omega) (fun k hk => mlfS s w hk), oM_neg (fun k hk => mlfS s w hk)]
  have yes : up1 lf c none = clr lf t c → Qv (up F1 42 c (-1)) G := fun he => h _ (by rw [← he]; exact MSh_unlift hs) (hf.up (by decide))
  have no : lf = clr lf t c → Qv F1 G := fun he => h _ (by rw [← he]; exact hs) hf
  unfold clr at yes no
  cases hl : lf c with
  | none =>
    rw [hl] at no
    exact ⟨fun e => (by cases e), fun _ => ⟨hi.1, fun _ => no rfl, fun e => absurd rfl e⟩⟩
  | some q =>
    obtain ⟨a, b'⟩ := q
    rw [hl] at yes no
    dsimp only at yes no
    have hab := w.2.2.2 c a b' hl
    rw [h43 a b' hl, nI_eq (by omega) (by omega)]
    refine ⟨fun e => ⟨hi.1, ?_⟩, fun e => ⟨hi.1, fun e2 => (by cases e2), fun _ => ⟨hi.1, fun e3 => ?_, fun e3 => ⟨hi.1, ?_⟩⟩⟩⟩
    · have e1 : a = t := by cases e; rfl
      exact yes (by rw [if_pos (Or.inl e1)])
    · exact no (by rw [if_neg (by rintro (z | z) <;> (subst z; first | exact e rfl | exact e3 rfl))])
    · exact yes (by rw [if_pos (Or.inr e3)])
theorem m_put1 (s : MSh T dr pl mu lf F) (w : WSh T dr pl mu lf) {t c : Nat} (ht : t < T) (hc : c < 30) (o : Option Nat) (ho : ∀ k, o = some k → k < 2 ^ 31) (b : Bool) (h : ∀ F', MSh T dr (up2 pl t c o) (up2 mu t c (o.isSome && b)) (clr lf t c) F' → Fr [40, 41, 42] F F' → Qv F' G) : AMv D (d + 1) nModel_put [.ref 39, .int (nI t), .int (nI c), .int (oM o), .int (bI b)] F G Qv := by
  have hT := s.1
  obtain ⟨e1, e2⟩ := jx30 (t := t) (c := c) (by omega) hc
  refine eModel_put ⟨e1, ?_⟩
  rw [e2, oM_pos ho]
  refine ⟨fun e => ?_, fun e => ?_⟩
  · cases o with
    | none => exact absurd rfl e
    | some k => exact m_put32 s w ht hc (some k) b h
  · cases o with
    | none => exact m_put32 s w ht hc none false h
    | some k => exact absurd (by simp) e
end MPUT
/-! night and sheets -/
def CNi (hc : Bool) (ca : Nat → Option Nat) (ho : Nat → Nat → Option Nat) (F : gF) : Prop := F 103 0 = bI hc ∧ (∀ t, t < 8 → F 16 t = oN (ca t)) ∧ (hc = true → ∀ t c, t < 8 → c < 30 → F 17 (t * 30 + c) = oN (ho t c))
def MNi (hc : Bool) (ca : Nat → Option Nat) (ho : Nat → Nat → Option Nat) (F : gF) : Prop := F 113 0 = bI hc ∧ (hc = true → ∀ t, t < 8 → F 51 t = oM (ca t)) ∧ (hc = true → ∀ t c, t < 8 → c < 30 → F 52 (t * 30 + c) = oM (ho t c))
def WNi (P : Nat) (hc : Bool) (ca : Nat → Option Nat) (ho : Nat → Nat → Option Nat) : Prop := (hc = false → ∀ t, ca t = none) ∧ (∀ t p, ca t = some p → p < P) ∧ (hc = true → ∀ t c p, ho t c = some p → p < P)
def CSt (sl : Nat → Option Nat) (sv : Nat → Nat → Int32) (F : gF) : Prop := F 108 0 = oM (sl 0) ∧ F 109 0 = oM (sl 1) ∧ (∀ n i, sl 0 = some n → i < n → F 35 i = sv 0 i) ∧ (∀ n i, sl 1 = some n → i < n → F 37 i = sv 1 i) ∧ (∀ i, fits .byte (.int (F 35 i)) = true) ∧ (∀ i, fits .byte (.int (F 37 i)) = true)
def MSt (sl : Nat → Option Nat) (sv : Nat → Nat → Int32) (F : gF) : Prop := (∀ s, s < 2 → F 53 s = oM (sl s)) ∧ (∀ s n i, s < 2 → sl s = some n → i < n → F 54 (s * 30 + i) = sv s i)
def WSt (sl : Nat → Option Nat) : Prop := ∀ s n, sl s = some n → n ≤ 30
def RS (T : Nat) (dr : Nat → Nat) (pl : Nat → Nat → Option Nat) (mu : Nat → Nat → Bool) (lf : Nat → Option (Nat × Nat)) (F : gF) : Prop := CSh T dr pl mu lf F ∧ MSh T dr pl mu lf F ∧ WSh T dr pl mu lf
def RC (T P Y : Nat) (kd sz : Nat → Nat) (ow : Nat → Option Nat) (dd rh : Nat → Nat → Option Nat) (fm ou : Nat → Nat) (F : gF) : Prop := CCo P Y kd sz ow dd rh fm ou F ∧ MCo P Y kd sz ow dd rh fm ou F ∧ WCo T P Y kd sz ow dd rh fm ou
def RN (P : Nat) (hc : Bool) (ca : Nat → Option Nat) (ho : Nat → Nat → Option Nat) (F : gF) : Prop := CNi hc ca ho F ∧ MNi hc ca ho F ∧ WNi P hc ca ho
def RT (sl : Nat → Option Nat) (sv : Nat → Nat → Int32) (F : gF) : Prop := CSt sl sv F ∧ MSt sl sv F ∧ WSt sl
/-- ONE WORLD on both sides -/
def RI (F : gF) : Prop := ∃ (T : Nat) (dr : Nat → Nat) (pl : Nat → Nat → Option Nat) (mu : Nat → Nat → Bool) (lf : Nat → Option (Nat × Nat)) (P Y : Nat) (kd sz : Nat → Nat) (ow : Nat → Option Nat) (dd rh : Nat → Nat → Option Nat) (fm ou : Nat → Nat) (hc : Bool) (ca : Nat → Option Nat) (ho : Nat → Nat → Option Nat) (sl : Nat → Option Nat) (sv : Nat → Nat → Int32), RS T dr pl mu lf F ∧ RC T P Y kd sz ow dd rh fm ou F ∧ RN P hc ca ho F ∧ RT sl sv F
section RFRAME
variable {F F' : gF} {T P Y : Nat} {dr : Nat → Nat} {pl : Nat → Nat → Option Nat} {mu : Nat → Nat → Bool} {lf : Nat → Option (Nat × Nat)} {kd sz : Nat → Nat} {ow : Nat → Option Nat} {dd rh : Nat → Nat → Option Nat} {fm ou : Nat → Nat} {hc : Bool} {ca : Nat → Option Nat} {ho : Nat → Nat → Option Nat} {sl : Nat → Option Nat} {sv : Nat → Nat → Int32} {ks : List Nat}
theorem RS_fr (hf : Fr ks F F') (hd : ∀ k ∈ [2, 3, 4, 5, 6, 100, 39, 40, 41, 42, 43, 110], k ∉ ks) (h : RS T dr pl mu lf F) : RS T dr pl mu lf F' :=
  ⟨CSh_fr hf (fun k hk => hd k (List.mem_append_left [39, 40, 41, 42, 43, 110] hk)) h.1, MSh_fr hf (fun k hk => hd k (List.mem_append_right [2, 3, 4, 5, 6, 100] hk)) h.2.1, h.2.2⟩
theorem RC_fr (hf : Fr ks F F') (hd : ∀ k ∈ [8, 9, 10, 11, 12, 13, 14, 101, 102, 44, 45, 46, 47, 48, 49, 50, 111, 112], k ∉ ks) (h : RC T P Y kd sz ow dd rh fm ou F) : RC T P Y kd sz ow dd rh fm ou F' :=
  ⟨CCo_fr hf (fun k hk => hd k (List.mem_append_left [44, 45, 46, 47, 48, 49, 50, 111, 112] hk)) h.1, MCo_fr hf (fun k hk => hd k (List.mem_append_right [8, 9, 10, 11, 12, 13, 14, 101, 102] hk)) h.2.1, h.2.2⟩
theorem CNi_fr (hf : Fr ks F F') (hd : ∀ k ∈ [16, 17, 103], k ∉ ks) (h : CNi hc ca ho F) : CNi hc ca ho F' := by
  obtain ⟨a1, a2, a3⟩ := h
  refine ⟨?_, ?_, ?_⟩
  · rw [hf 103 (hd 103 (by decide))]; exact a1
  · rw [hf 16 (hd 16 (by decide))]; exact a2
  · rw [hf 17 (hd 17 (by decide))]; exact a3
theorem MNi_fr (hf : Fr ks F F') (hd : ∀ k ∈ [51, 52, 113], k ∉ ks) (h : MNi hc ca ho F) : MNi hc ca ho F' := by
  obtain ⟨b1, b2, b3⟩ := h
  refine ⟨?_, ?_, ?_⟩
  · rw [hf 113 (hd 113 (by decide))]; exact b1
  · rw [hf 51 (hd 51 (by decide))]; exact b2
  · rw [hf 52 (hd 52 (by decide))]; exact b3
theorem RN_fr (hf : Fr ks F F') (hd : ∀ k ∈ [16, 17, 103, 51, 52, 113], k ∉ ks) (h : RN P hc ca ho F) : RN P hc ca ho F' :=
  ⟨CNi_fr hf (fun k hk => hd k (List.mem_append_left [51, 52, 113] hk)) h.1, MNi_fr hf (fun k hk => hd k (List.mem_append_right [16, 17, 103] hk)) h.2.1, h.2.2⟩
theorem CSt_fr (hf : Fr ks F F') (hd : ∀ k ∈ [35, 37, 108, 109], k ∉ ks) (h : CSt sl sv F) : CSt sl sv F' := by
  obtain ⟨a1, a2, a3, a4, a5, a6⟩ := h
  refine ⟨?_, ?_, ?_, ?_, ?_, ?_⟩
  · rw [hf 108 (hd 108 (by decide))]; exact a1
  · rw [hf 109 (hd 109 (by decide))]; exact a2
  · rw [hf 35 (hd 35 (by decide))]; exact a3
  · rw [hf 37 (hd 37 (by decide))]; exact a4
  · rw [hf 35 (hd 35 (by decide))]; exact a5
  · rw [hf 37 (hd 37 (by decide))]; exact a6
theorem MSt_fr (hf : Fr ks F F') (hd : ∀ k ∈ [53, 54], k ∉ ks) (h : MSt sl sv F) : MSt sl sv F' := by
  obtain ⟨b1, b2⟩ := h
  refine ⟨?_, ?_⟩
  · rw [hf 53 (hd 53 (by decide))]; exact b1
  · rw [hf 54 (hd 54 (by decide))]; exact b2
theorem RT_fr (hf : Fr ks F F') (hd : ∀ k ∈ [35, 37, 108, 109, 53, 54], k ∉ ks) (h : RT sl sv F) : RT sl sv F' :=
  ⟨CSt_fr hf (fun k hk => hd k (List.mem_append_left [53, 54] hk)) h.1, MSt_fr hf (fun k hk => hd k (List.mem_append_right [35, 37, 108, 109] hk)) h.2.1, h.2.2⟩
end RFRAME
/-- a call on both sides: one answer, one world -/
def Step (D : va_G) (d : Nat) (N1 N2 : gMd) (as : List Value) : Prop := ∀ (F : gF) (G : Nat → Int64), RI F → AMi D d N1 (.ref 1 :: as) F G (fun r F1 G1 => AMi D d N2 (.ref 39 :: as) F1 G1 (fun r' F2 _ => r = r' ∧ RI F2))
