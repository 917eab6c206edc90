/-! the abstract heap: cells by their number; a reference k+1 stands for cell k, reference 0 for the law's own script -/
abbrev gAE : Type := (FieldType × vp_A) ⊕ (Nat × List Value)
abbrev gAH : Type := List gAE
def gRV (sg : List Nat) (v v' : Value) : Prop := match v with
  | .ref k => ∃ a : Nat, sg[k]? = some a ∧ v' = .ref a
  | w => v' = w
def gRS (sg : List Nat) : List Value → List Value → Prop
  | [], [] => True
  | v :: S, v' :: S' => gRV sg v v' ∧ gRS sg S S'
  | _, _ => False
def gRP (sg : List Nat) : List (Nat × Value) → List (Nat × Value) → Prop
  | [], [] => True
  | q :: L, q' :: L' => (q'.1 = q.1 ∧ gRV sg q.2 q'.2) ∧ gRP sg L L'
  | _, _ => False
def gRO (sg : List Nat) (r r' : Option Nat) : Prop := match r with
  | none => r' = none
  | some k => ∃ a : Nat, sg[k]? = some a ∧ r' = some a
def gRA (sg : List Nat) (a a' : (Nat → Int32) ⊕ (Nat → Int64) ⊕ (Nat → UInt32) ⊕ (Nat → UInt64) ⊕ (Nat → Option Nat)) : Prop := match a with
  | .inr (.inr (.inr (.inr f))) => ∃ f' : Nat → Option Nat, a' = .inr (.inr (.inr (.inr f'))) ∧ ∀ i, gRO sg (f i) (f' i)
  | x => a' = x
def gRE (U : State) (sg : List Nat) (x : gAE) (e : va_E) : Prop := match x with
  | .inl q => ∃ (cA : ClassId) (a' : (Nat → Int32) ⊕ (Nat → Int64) ⊕ (Nat → UInt32) ⊕ (Nat → UInt64) ⊕ (Nat → Option Nat)), e = .inl (cA, q.2.1, a') ∧ ArrOfT U cA q.1 ∧ va_RA U cA q.1 ∧ gRA sg q.2.2 a'
  | .inr q => ∃ fs' : List Value, e = .inr (q.1, fs') ∧ gRS sg q.2 fs'
def gRH (U : State) (sg : List Nat) (h : gAH) (ws : va_W) : Prop := h.length = ws.length ∧ ∀ (k : Nat) (x : gAE), h[k]? = some x → ∃ (a : Nat) (e : va_E), ws[k]? = some (a, e) ∧ gRE U sg x e
def gROV (sg : List Nat) (v v' : Option Value) : Prop := match v with
  | none => v' = none
  | some w => ∃ w', v' = some w' ∧ gRV sg w w'
theorem gRV_cat {sg : List Nat} {v v' : Value} (h : gRV sg v v') : v'.category = v.category := by
  cases v <;> first | (obtain ⟨a, -, rfl⟩ := h; rfl) | (cases h; rfl)
theorem gRV_mono {sg t : List Nat} {v v' : Value} (h : gRV sg v v') : gRV (sg ++ t) v v' := by
  cases v with
  | ref k =>
    obtain ⟨a, h1, h2⟩ := h
    exact ⟨a, by rw [List.getElem?_append_left (List.getElem?_eq_some_iff.mp h1).1]; exact h1, h2⟩
  | _ => exact h
theorem gRO_mono {sg t : List Nat} {v v' : Option Nat} (h : gRO sg v v') : gRO (sg ++ t) v v' := by
  cases v with
  | some k =>
    obtain ⟨a, h1, h2⟩ := h
    exact ⟨a, by rw [List.getElem?_append_left (List.getElem?_eq_some_iff.mp h1).1]; exact h1, h2⟩
  | none => exact h
theorem gRS_mono {sg t : List Nat} : ∀ {S S' : List Value}, gRS sg S S' → gRS (sg ++ t) S S'
  | [], [], _ => trivial
  | _ :: _, _ :: _, h => ⟨gRV_mono h.1, gRS_mono h.2⟩
  | [], _ :: _, h => h.elim
  | _ :: _, [], h => h.elim
theorem gRP_mono {sg t : List Nat} : ∀ {S S' : List (Nat × Value)}, gRP sg S S' → gRP (sg ++ t) S S'
  | [], [], _ => trivial
  | _ :: _, _ :: _, h => ⟨⟨h.1.1, gRV_mono h.1.2⟩, gRP_mono h.2⟩
  | [], _ :: _, h => h.elim
  | _ :: _, [], h => h.elim
theorem gRA_mono {sg t : List Nat} {a a' : (Nat → Int32) ⊕ (Nat → Int64) ⊕ (Nat → UInt32) ⊕ (Nat → UInt64) ⊕ (Nat → Option Nat)} (h : gRA sg a a') : gRA (sg ++ t) a a' := by
  rcases a with f | f | f | f | f
  · exact h
  · exact h
  · exact h
  · exact h
  · obtain ⟨f', h1, h2⟩ := h
    exact ⟨f', h1, fun i => gRO_mono (h2 i)⟩
theorem gRE_mono {U : State} {sg t : List Nat} {x : gAE} {e : va_E} (h : gRE U sg x e) : gRE U (sg ++ t) x e := by
  rcases x with q | q
  · obtain ⟨cA, a', h1, h2, h3, h4⟩ := h
    exact ⟨cA, a', h1, h2, h3, gRA_mono h4⟩
  · obtain ⟨fs', h1, h2⟩ := h
    exact ⟨fs', h1, gRS_mono h2⟩
theorem gRE_moved {u U : State} (hvm : u.vm.Alike U.vm) {sg : List Nat} {x : gAE} {e : va_E} (h : gRE u sg x e) : gRE U sg x e := by
  rcases x with q | q
  · obtain ⟨cA, a', h1, h2, h3, h4⟩ := h
    exact ⟨cA, a', h1, arrOfT_moved hvm h2, h3.moved hvm, h4⟩
  · exact h
theorem gRH_moved {u U : State} (hvm : u.vm.Alike U.vm) {sg : List Nat} {h : gAH} {ws : va_W} (hh : gRH u sg h ws) : gRH U sg h ws :=
  ⟨hh.1, fun k x hk => by obtain ⟨a, e, h1, h2⟩ := hh.2 k x hk; exact ⟨a, e, h1, gRE_moved hvm h2⟩⟩
theorem gRS_cons {sg : List Nat} {v : Value} {S S' : List Value} (h : gRS sg (v :: S) S') : ∃ (v' : Value) (S1 : List Value), S' = v' :: S1 ∧ gRV sg v v' ∧ gRS sg S S1 := by
  cases S' with
  | nil => exact h.elim
  | cons v' S1 => exact ⟨v', S1, rfl, h.1, h.2⟩
theorem gRS_nil {sg : List Nat} {S' : List Value} (h : gRS sg [] S') : S' = [] := by
  cases S' with
  | nil => rfl
  | cons v' S1 => exact h.elim
theorem gRS_int {sg : List Nat} {x : Int32} {S S' : List Value} (h : gRS sg (.int x :: S) S') : ∃ S1 : List Value, S' = .int x :: S1 ∧ gRS sg S S1 := by
  obtain ⟨v', S1, rfl, h1, h2⟩ := gRS_cons h
  cases h1
  exact ⟨S1, rfl, h2⟩
theorem gRS_long {sg : List Nat} {x : Int64} {S S' : List Value} (h : gRS sg (.long x :: S) S') : ∃ S1 : List Value, S' = .long x :: S1 ∧ gRS sg S S1 := by
  obtain ⟨v', S1, rfl, h1, h2⟩ := gRS_cons h
  cases h1
  exact ⟨S1, rfl, h2⟩
theorem gRS_null {sg : List Nat} {S S' : List Value} (h : gRS sg (.null :: S) S') : ∃ S1 : List Value, S' = .null :: S1 ∧ gRS sg S S1 := by
  obtain ⟨v', S1, rfl, h1, h2⟩ := gRS_cons h
  cases h1
  exact ⟨S1, rfl, h2⟩
theorem gRS_ref {sg : List Nat} {k : Nat} {S S' : List Value} (h : gRS sg (.ref k :: S) S') : ∃ (a : Nat) (S1 : List Value), sg[k]? = some a ∧ S' = .ref a :: S1 ∧ gRS sg S S1 := by
  obtain ⟨v', S1, rfl, ⟨a, h1, rfl⟩, h2⟩ := gRS_cons h
  exact ⟨a, S1, h1, rfl, h2⟩
theorem gRS_app {sg : List Nat} : ∀ {S S' T T' : List Value}, gRS sg S S' → gRS sg T T' → gRS sg (S ++ T) (S' ++ T')
  | [], [], _, _, _, h2 => h2
  | _ :: _, _ :: _, _, _, h, h2 => ⟨h.1, gRS_app h.2 h2⟩
  | [], _ :: _, _, _, h, _ => h.elim
  | _ :: _, [], _, _, h, _ => h.elim
theorem gRS_split {sg : List Nat} : ∀ {S T X : List Value}, gRS sg (S ++ T) X → ∃ S' T' : List Value, X = S' ++ T' ∧ gRS sg S S' ∧ gRS sg T T'
  | [], _, X, h => ⟨[], X, rfl, trivial, h⟩
  | v :: S, T, X, h => by
    obtain ⟨v', X1, rfl, h1, h2⟩ := gRS_cons (S := S ++ T) h
    obtain ⟨S', T', rfl, h3, h4⟩ := gRS_split h2
    exact ⟨v' :: S', T', rfl, ⟨h1, h3⟩, h4⟩
theorem gRS_rev {sg : List Nat} : ∀ {S S' : List Value}, gRS sg S S' → gRS sg S.reverse S'.reverse
  | [], [], _ => trivial
  | v :: S, v' :: S', h => by
    rw [List.reverse_cons, List.reverse_cons]
    exact gRS_app (gRS_rev h.2) ⟨h.1, trivial⟩
  | [], _ :: _, h => h.elim
  | _ :: _, [], h => h.elim
theorem gRS_len {sg : List Nat} : ∀ {S S' : List Value}, gRS sg S S' → S'.length = S.length
  | [], [], _ => rfl
  | _ :: _, _ :: _, h => by simp [gRS_len h.2]
  | [], _ :: _, h => h.elim
  | _ :: _, [], h => h.elim
theorem gRS_cat {sg : List Nat} : ∀ {S S' : List Value}, gRS sg S S' → S'.map (fun v => v.category) = S.map (fun v => v.category)
  | [], [], _ => rfl
  | _ :: _, _ :: _, h => by simp [gRS_cat h.2, gRV_cat h.1]
  | [], _ :: _, h => h.elim
  | _ :: _, [], h => h.elim
theorem gRS_get {sg : List Nat} : ∀ {S S' : List Value}, gRS sg S S' → ∀ {i : Nat} {v : Value}, S[i]? = some v → ∃ v', S'[i]? = some v' ∧ gRV sg v v'
  | [], [], _, i, v, h => by simp at h
  | v :: S, v' :: S', h, 0, w, hw => by
    simp at hw
    subst hw
    exact ⟨v', by simp, h.1⟩
  | v :: S, v' :: S', h, i + 1, w, hw => by
    simp at hw
    obtain ⟨w', h1, h2⟩ := gRS_get h.2 hw
    exact ⟨w', by simpa using h1, h2⟩
  | [], _ :: _, h, _, _, _ => h.elim
  | _ :: _, [], h, _, _, _ => h.elim
theorem gRS_set {sg : List Nat} {w w' : Value} (hw : gRV sg w w') : ∀ {S S' : List Value}, gRS sg S S' → ∀ (i : Nat), gRS sg (S.set i w) (S'.set i w')
  | [], [], _, i => by simp [gRS]
  | v :: S, v' :: S', h, 0 => ⟨hw, h.2⟩
  | v :: S, v' :: S', h, i + 1 => ⟨h.1, gRS_set hw h.2 i⟩
  | [], _ :: _, h, _ => h.elim
  | _ :: _, [], h, _ => h.elim
theorem gRP_get {sg : List Nat} : ∀ {S S' : List (Nat × Value)}, gRP sg S S' → ∀ {i : Nat} {q : Nat × Value}, S[i]? = some q → ∃ v', S'[i]? = some (q.1, v') ∧ gRV sg q.2 v'
  | [], [], _, i, v, h => by simp at h
  | v :: S, v' :: S', h, 0, w, hw => by
    simp at hw
    subst hw
    exact ⟨v'.2, by rw [← h.1.1]; simp, h.1.2⟩
  | v :: S, v' :: S', h, i + 1, w, hw => by
    simp at hw
    obtain ⟨w', h1, h2⟩ := gRP_get h.2 hw
    exact ⟨w', by simpa using h1, h2⟩
  | [], _ :: _, h, _, _, _ => h.elim
  | _ :: _, [], h, _, _, _ => h.elim
theorem gRP_none {sg : List Nat} : ∀ {S S' : List (Nat × Value)}, gRP sg S S' → S'.length = S.length
  | [], [], _ => rfl
  | _ :: _, _ :: _, h => by simp [gRP_none h.2]
  | [], _ :: _, h => h.elim
  | _ :: _, [], h => h.elim
theorem gRP_filter {sg : List Nat} {f : Nat × Value → Bool} (hf : ∀ q q' : Nat × Value, q'.1 = q.1 → q'.2.category = q.2.category → f q' = f q) : ∀ {S S' : List (Nat × Value)}, gRP sg S S' → gRP sg (S.filter f) (S'.filter f)
  | [], [], _ => trivial
  | v :: S, v' :: S', h => by
    have e := hf v v' h.1.1 (gRV_cat h.1.2)
    rw [List.filter_cons, List.filter_cons, e]
    cases f v with
    | true => exact ⟨h.1, gRP_filter hf h.2⟩
    | false => exact gRP_filter hf h.2
  | [], _ :: _, h => h.elim
  | _ :: _, [], h => h.elim
theorem gRP_pick {sg : List Nat} {S S' : List (Nat × Value)} (h : gRP sg S S') : ∀ ks : List Nat, gRP sg (lv_pick S ks) (lv_pick S' ks)
  | [] => trivial
  | k :: ks => by
    have ih := gRP_pick h ks
    unfold lv_pick at ih ⊢
    rw [List.filterMap_cons, List.filterMap_cons]
    cases hk : S[k]? with
    | none =>
      have : S'[k]? = none := by
        rw [List.getElem?_eq_none_iff] at hk ⊢
        rw [gRP_none h]
        exact hk
      rw [this]
      exact ih
    | some q =>
      obtain ⟨v', h1, h2⟩ := gRP_get h hk
      rw [h1]
      exact ⟨⟨rfl, h2⟩, ih⟩
theorem gRP_args {sg : List Nat} : ∀ {S S' : List Value}, gRS sg S S' → ∀ i : Nat, gRP sg (lv_args i S) (lv_args i S')
  | [], [], _, _ => trivial
  | v :: S, v' :: S', h, i => by
    unfold lv_args
    rw [gRV_cat h.1]
    exact ⟨⟨rfl, h.1⟩, gRP_args h.2 _⟩
  | [], _ :: _, h, _ => h.elim
  | _ :: _, [], h, _ => h.elim
theorem gRS_sl {sg : List Nat} : ∀ {S S' : List Value}, gRS sg S S' → (lg_sl S').length = (lg_sl S).length
  | [], [], _ => rfl
  | v :: S, v' :: S', h => by
    have ih := gRS_sl h.2
    unfold lg_sl at ih ⊢
    rw [List.flatMap_cons, List.flatMap_cons, List.length_append, List.length_append, ih, gRV_cat h.1]
    split <;> rfl
  | [], _ :: _, h => h.elim
  | _ :: _, [], h => h.elim
/-! the world behind a store or a new cell -/
theorem gmap_set {ws : va_W} {k a : Nat} {e e' : va_E} (h : ws[k]? = some (a, e)) : (ws.set k (a, e')).map Prod.fst = ws.map Prod.fst := by
  apply List.ext_getElem?
  intro i
  rw [List.getElem?_map, List.getElem?_map, List.getElem?_set]
  split
  · rename_i hi
    subst hi
    rw [if_pos (List.getElem?_eq_some_iff.mp h).1, h]
    rfl
  · rfl
theorem gRH_set {U : State} {b k a : Nat} {h : gAH} {ws : va_W} {x : gAE} {e e' : va_E} (hh : gRH U (b :: ws.map Prod.fst) h ws) (hk : ws[k]? = some (a, e)) (hx : gRE U (b :: ws.map Prod.fst) x e') : gRH U (b :: (ws.set k (a, e')).map Prod.fst) (h.set k x) (ws.set k (a, e')) := by
  rw [gmap_set hk]
  refine ⟨by simp [hh.1], fun i y hy => ?_⟩
  rw [List.getElem?_set] at hy ⊢
  by_cases hi : k = i
  · subst hi
    rw [if_pos rfl] at hy ⊢
    have hl := (List.getElem?_eq_some_iff.mp hk).1
    rw [if_pos (by rw [hh.1]; exact hl)] at hy
    rw [if_pos hl]
    cases hy
    exact ⟨a, e', rfl, hx⟩
  · rw [if_neg hi] at hy ⊢
    exact hh.2 i y hy
theorem gRH_push {U : State} {b q : Nat} {h : gAH} {ws : va_W} {x : gAE} {e : va_E} (hh : gRH U (b :: ws.map Prod.fst) h ws) (hx : gRE U (b :: (ws ++ [(q, e)]).map Prod.fst) x e) : gRH U (b :: (ws ++ [(q, e)]).map Prod.fst) (h ++ [x]) (ws ++ [(q, e)]) := by
  refine ⟨by simp [hh.1], fun i y hy => ?_⟩
  have es : b :: (ws ++ [(q, e)]).map Prod.fst = (b :: ws.map Prod.fst) ++ [q] := by simp
  by_cases hi : i < h.length
  · rw [List.getElem?_append_left hi] at hy
    obtain ⟨a, e1, h1, h2⟩ := hh.2 i y hy
    refine ⟨a, e1, ?_, ?_⟩
    · rw [List.getElem?_append_left (by rw [← hh.1]; exact hi)]
      exact h1
    · rw [es]
      exact gRE_mono h2
  · rw [List.getElem?_append_right (by omega)] at hy
    have hz : i - h.length < 1 := (List.getElem?_eq_some_iff.mp hy).1
    have hz0 : i - h.length = 0 := by omega
    rw [hz0] at hy
    cases hy
    refine ⟨q, e, ?_, hx⟩
    rw [List.getElem?_append_right (by rw [← hh.1]; omega), ← hh.1, hz0]
    rfl
/-- a reference to a cell of the heap: its address -/
theorem gRH_at {U : State} {b k a : Nat} {h : gAH} {ws : va_W} {x : gAE} (hh : gRH U (b :: ws.map Prod.fst) h ws) (hx : h[k]? = some x) (ha : (b :: ws.map Prod.fst)[k + 1]? = some a) : ∃ e : va_E, ws[k]? = some (a, e) ∧ gRE U (b :: ws.map Prod.fst) x e := by
  obtain ⟨a1, e, h1, h2⟩ := hh.2 k x hx
  rw [List.getElem?_cons_succ, List.getElem?_map, h1] at ha
  cases ha
  exact ⟨e, h1, h2⟩
