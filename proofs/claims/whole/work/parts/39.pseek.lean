/-! THE SEARCH, as numbers: one search that both sides go through -/
abbrev gTr := Nat → Option Nat
abbrev gBst := Option (Nat × gTr)
def okB (dr : Nat → Nat) (pl : Nat → Nat → Option Nat) (sz : Nat → Nat) (ow : Nat → Option Nat) (dd : Nat → Nat → Option Nat) (ou : Nat → Nat) (p t : Nat) : Bool := playB sz ow dd p t (dr t) && !fromB pl t (ou p)
def barB (pl : Nat → Nat → Option Nat) (fm : Nat → Nat) (tr : gTr) (p t u : Nat) : Bool := match tr u with
  | none => false
  | some q => (decide (q = p) && meetB pl t u) || ((fm p).testBit q && besideB pl t u)
def fitB (dr : Nat → Nat) (pl : Nat → Nat → Option Nat) (sz : Nat → Nat) (ow : Nat → Option Nat) (dd : Nat → Nat → Option Nat) (fm ou : Nat → Nat) (tr : gTr) (p t : Nat) : Bool := okB dr pl sz ow dd ou p t && !anyB (barB pl fm tr p t) t
def covN (P Y : Nat) (kd : Nat → Nat) (ow : Nat → Option Nat) (dd : Nat → Nat → Option Nat) (p t : Nat) : Nat := if ow p = some t then 0 else (if freshB Y kd dd p t then 0 else 3) + (match ownerF ow t P with
  | none => 0
  | some _ => if ofK kd p 2 then 1 else 2)
def LC (lf : Nat → Option (Nat × Nat)) (n t u : Nat) : Nat := cntB (fun c => decide (lf c = some (t, u))) n
def dnN (Y : Nat) (ow : Nat → Option Nat) (rh : Nat → Nat → Option Nat) (tr : gTr) (t u : Nat) : Nat := if doneB Y ow rh (tr t) t (tr u) u then 0 else 6
def liftL (lf : Nat → Option (Nat × Nat)) (Y : Nat) (ow : Nat → Option Nat) (rh : Nat → Nat → Option Nat) (tr : gTr) (t : Nat) : Nat := sumN (fun u => LC lf 30 t u * dnN Y ow rh tr t u + LC lf 30 u t * dnN Y ow rh tr u t) t
def hadN (tr : gTr) (p t : Nat) : Nat := if anyB (fun u => decide (tr u = some p)) t then 4 else 0
def ownL (mu : Nat → Nat → Bool) (P Y : Nat) (kd : Nat → Nat) (ow : Nat → Option Nat) (dd : Nat → Nat → Option Nat) (tr : gTr) (t : Nat) : Nat := match tr t with
  | none => 20 + 10 * cntB (mu t) 30
  | some p => covN P Y kd ow dd p t + hadN tr p t
def stepL (mu : Nat → Nat → Bool) (lf : Nat → Option (Nat × Nat)) (P Y : Nat) (kd : Nat → Nat) (ow : Nat → Option Nat) (dd rh : Nat → Nat → Option Nat) (tr : gTr) (t : Nat) : Nat := ownL mu P Y kd ow dd tr t + liftL lf Y ow rh tr t
def keepS (l : Nat) (tr : gTr) (b : gBst) : gBst := match b with
  | none => some (l, tr)
  | some (l0, w) => if l < l0 then some (l, tr) else some (l0, w)
def loopS (fit : Nat → Bool) (go : Option Nat → Nat → gBst → Nat × Bool × gBst) : Nat → Nat → Nat → gBst → Nat × Bool × gBst
  | 0, _, n, b => go none n b
  | k + 1, p, n, b => if fit p then (if n = 0 then (0, true, b) else if (go (some p) (n - 1) b).2.1 then go (some p) (n - 1) b else loopS fit go k (p + 1) (go (some p) (n - 1) b).1 (go (some p) (n - 1) b).2.2) else loopS fit go k (p + 1) n b
def seekS (P : Nat) (fit : gTr → Nat → Nat → Bool) (L : gTr → Nat) : Nat → Nat → gTr → Nat → gBst → Nat × Bool × gBst
  | 0, _, tr, n, b => (n, false, keepS (L tr) tr b)
  | r + 1, t, tr, n, b => loopS (fun p => fit tr p t) (fun o n b => seekS P fit L r (t + 1) (up1 tr t o) n b) P 0 n b
theorem keepS_some (l : Nat) (tr : gTr) (b : gBst) : keepS l tr b ≠ none := by
  unfold keepS
  split
  · intro h; cases h
  · split
    · intro h; cases h
    · intro h; cases h
theorem loopS_some {fit : Nat → Bool} {go : Option Nat → Nat → gBst → Nat × Bool × gBst} (hg : ∀ o n b, (go o n b).2.1 = false → (go o n b).2.2 ≠ none) : ∀ k p n b, (loopS fit go k p n b).2.1 = false → (loopS fit go k p n b).2.2 ≠ none
  | 0, _, n, b => hg none n b
  | k + 1, p, n, b => by
    rw [loopS]
    split
    · split
      · intro h; cases h
      · split
        · rename_i h; intro h2; rw [h] at h2; cases h2
        · exact loopS_some hg k _ _ _
    · exact loopS_some hg k _ _ _
theorem seekS_some {P : Nat} {fit : gTr → Nat → Nat → Bool} {L : gTr → Nat} : ∀ r t tr n b, (seekS P fit L r t tr n b).2.1 = false → (seekS P fit L r t tr n b).2.2 ≠ none
  | 0, _, tr, n, b => fun _ => keepS_some _ _ _
  | r + 1, t, tr, n, b => loopS_some (fun o n b => seekS_some r _ _ n b) P 0 n b
/-- what a search keeps is good -/
def goodB (P : Nat) (b : gBst) : Prop := ∀ l w, b = some (l, w) → l < 1000000 ∧ ∀ u p, w u = some p → p < P
theorem keepS_good {P l : Nat} {tr : gTr} {b : gBst} (hl : l < 1000000) (ht : ∀ u p, tr u = some p → p < P) (hb : goodB P b) : goodB P (keepS l tr b) := by
  unfold keepS
  split
  · intro l' w h; cases h; exact ⟨hl, ht⟩
  · split
    · intro l' w h; cases h; exact ⟨hl, ht⟩
    · exact hb
theorem loopS_good {P : Nat} {fit : Nat → Bool} {go : Option Nat → Nat → gBst → Nat × Bool × gBst} (hg : ∀ o n b, (∀ p, o = some p → p < P) → goodB P b → goodB P (go o n b).2.2) : ∀ k p n b, p + k ≤ P → goodB P b → goodB P (loopS fit go k p n b).2.2
  | 0, _, n, b => fun _ hb => hg none n b (fun _ h => by cases h) hb
  | k + 1, p, n, b => by
    intro hk hb
    have h1 := hg (some p) (n - 1) b (fun q h => by cases h; omega) hb
    rw [loopS]
    split
    · split
      · exact hb
      · split
        · exact h1
        · exact loopS_good hg k _ _ _ (by omega) h1
    · exact loopS_good hg k _ _ _ (by omega) hb
theorem up1_lt {P : Nat} {tr : gTr} {t : Nat} {o : Option Nat} (ht : ∀ u p, tr u = some p → p < P) (ho : ∀ p, o = some p → p < P) : ∀ u p, up1 tr t o u = some p → p < P := by
  intro u p h
  rw [up1] at h
  split at h
  · exact ho p h
  · exact ht u p h
theorem seekS_good {P : Nat} {fit : gTr → Nat → Nat → Bool} {L : gTr → Nat} (hL : ∀ tr, L tr < 1000000) : ∀ r t tr n b, (∀ u p, tr u = some p → p < P) → goodB P b → goodB P (seekS P fit L r t tr n b).2.2
  | 0, _, tr, n, b => fun ht hb => keepS_good (hL tr) ht hb
  | r + 1, t, tr, n, b => fun ht hb => loopS_good (fun o n b ho hb => seekS_good hL r _ _ n b (up1_lt ht ho) hb) P 0 n b (by omega) hb
/-! the losses -/
theorem sumN_zero {f : Nat → Nat} : ∀ n, (∀ k, k < n → f k = 0) → sumN f n = 0
  | 0, _ => rfl
  | n + 1, h => by rw [sumN, sumN_zero n (fun k hk => h k (by omega)), h n (by omega)]
theorem sumN_one {v : Nat} (k : Nat) : ∀ n, sumN (fun i => if i = k then v else 0) n = if k < n then v else 0
  | 0 => by simp [sumN]
  | n + 1 => by
    rw [sumN, sumN_one k n]
    by_cases h : k < n
    · rw [if_pos h, if_neg (show ¬ n = k by omega), if_pos (show k < n + 1 by omega)]; rfl
    · rw [if_neg h]
      by_cases e : n = k
      · rw [if_pos e, if_pos (by omega)]; omega
      · rw [if_neg e, if_neg (by omega)]
def dbl (f : Nat → Nat → Nat) (T : Nat) : Nat := sumN (fun t => sumN (fun u => f t u + f u t) t) T
theorem dbl_add (f g : Nat → Nat → Nat) (T : Nat) : dbl (fun t u => f t u + g t u) T = dbl f T + dbl g T := by
  unfold dbl
  rw [← sumN_add]
  refine sumN_cong T (fun t _ => ?_)
  rw [← sumN_add]
  exact sumN_cong t (fun u _ => by dsimp only; omega)
theorem dbl_cong {f g : Nat → Nat → Nat} {T : Nat} (h : ∀ t u, f t u = g t u) : dbl f T = dbl g T := by
  have : f = g := funext (fun t => funext (fun u => h t u))
  rw [this]
theorem dbl_zero {T : Nat} : dbl (fun _ _ => 0) T = 0 := sumN_zero T (fun t _ => sumN_zero t (fun _ _ => rfl))
theorem dbl_one {v x y T : Nat} (hx : x < T) (hy : y < T) (hne : x ≠ y) : dbl (fun t u => if t = x ∧ u = y then v else 0) T = v := by
  unfold dbl
  have h : ∀ t, t < T → sumN (fun u => (if t = x ∧ u = y then v else 0) + (if u = x ∧ t = y then v else 0)) t = if t = (if x < y then y else x) then v else 0 := by
    intro t _
    by_cases hlt : x < y
    · rw [if_pos hlt]
      by_cases e : t = y
      · rw [if_pos e, sumN_cong (g := fun u => if u = x then v else 0) t (fun u hu => ?_), sumN_one, if_pos (by omega)]
        rw [if_neg (by omega)]
        by_cases e2 : u = x
        · rw [if_pos ⟨e2, e⟩, if_pos e2]; omega
        · rw [if_neg (fun z => e2 z.1), if_neg e2]
      · rw [if_neg e]
        refine sumN_zero t (fun u hu => ?_)
        rw [if_neg (by omega), if_neg (by omega)]
    · rw [if_neg hlt]
      by_cases e : t = x
      · rw [if_pos e, sumN_cong (g := fun u => if u = y then v else 0) t (fun u hu => ?_), sumN_one, if_pos (by omega)]
        rw [if_neg (show ¬ (u = x ∧ t = y) by omega)]
        by_cases e2 : u = y
        · rw [if_pos ⟨e, e2⟩, if_pos e2]; omega
        · rw [if_neg (fun z => e2 z.2), if_neg e2]
      · rw [if_neg e]
        refine sumN_zero t (fun u hu => ?_)
        rw [if_neg (by omega), if_neg (by omega)]
  rw [sumN_cong T h, sumN_one, if_pos (by split <;> assumption)]
/-- the lifts, by the cues: as the model counts them -/
def cueL (lf : Nat → Option (Nat × Nat)) (g : Nat → Nat → Nat) (c : Nat) : Nat := match lf c with
  | none => 0
  | some (x, y) => g x y
theorem lifts_eq {lf : Nat → Option (Nat × Nat)} {T : Nat} (g : Nat → Nat → Nat) (hw : ∀ c x y, lf c = some (x, y) → x < T ∧ y < T ∧ x ≠ y) : ∀ n, dbl (fun t u => LC lf n t u * g t u) T = sumN (cueL lf g) n
  | 0 => by
    rw [dbl_cong (g := fun _ _ => 0) (fun t u => by rw [LC, cntB, Nat.zero_mul]), dbl_zero]
    rfl
  | n + 1 => by
    have ih := lifts_eq g hw n
    rw [sumN, ← ih]
    cases hl : lf n with
    | none =>
      rw [dbl_cong (g := fun t u => LC lf n t u * g t u) (fun t u => ?_)]
      · rw [cueL, hl]; rfl
      · rw [LC, cntB, hl, decide_eq_false (by intro z; cases z)]; rfl
    | some q =>
      obtain ⟨x, y⟩ := q
      obtain ⟨h1, h2, h3⟩ := hw n x y hl
      rw [dbl_cong (g := fun t u => LC lf n t u * g t u + (if t = x ∧ u = y then g x y else 0)) (fun t u => ?_), dbl_add, dbl_one h1 h2 h3, cueL, hl]
      rw [LC, cntB, hl, Nat.add_mul]
      by_cases e : t = x ∧ u = y
      · rw [if_pos e, e.1, e.2, decide_eq_true rfl, if_pos rfl, Nat.one_mul]; rfl
      · rw [if_neg e, decide_eq_false (fun z => e (by cases z; exact ⟨rfl, rfl⟩))]
        simp [LC]
section PLOSS
variable {T P Y : Nat} {dr : Nat → Nat} {pl : Nat → Nat → Option Nat} {mu : Nat → Nat → Bool} {lf : Nat → Option (Nat × Nat)} {kd sz : Nat → Nat} {ow : Nat → Option Nat} {dd rh : Nat → Nat → Option Nat} {fm ou : Nat → Nat} {tr tr' : gTr}
theorem dn_cong {t u : Nat} (h1 : tr t = tr' t) (h2 : tr u = tr' u) : dnN Y ow rh tr t u = dnN Y ow rh tr' t u := by unfold dnN; rw [h1, h2]
theorem liftL_cong {t : Nat} (h : ∀ u, u ≤ t → tr u = tr' u) : liftL lf Y ow rh tr t = liftL lf Y ow rh tr' t := by
  unfold liftL
  refine sumN_cong t (fun u hu => ?_)
  rw [dn_cong (h t (by omega)) (h u (by omega)), dn_cong (h u (by omega)) (h t (by omega))]
theorem hadN_cong {p t : Nat} (h : ∀ u, u < t → tr u = tr' u) : hadN tr p t = hadN tr' p t := by
  unfold hadN
  rw [anyB_cong t (fun u hu => by rw [h u hu])]
theorem ownL_cong {t : Nat} (h : ∀ u, u ≤ t → tr u = tr' u) : ownL mu P Y kd ow dd tr t = ownL mu P Y kd ow dd tr' t := by
  unfold ownL
  rw [h t (by omega)]
  split
  · rfl
  · rw [hadN_cong (fun u hu => h u (by omega))]
theorem stepL_cong {t : Nat} (h : ∀ u, u ≤ t → tr u = tr' u) : stepL mu lf P Y kd ow dd rh tr t = stepL mu lf P Y kd ow dd rh tr' t := by
  unfold stepL
  rw [ownL_cong h, liftL_cong h]
theorem acc_up {t : Nat} {o : Option Nat} : sumN (stepL mu lf P Y kd ow dd rh (up1 tr t o)) (t + 1) = sumN (stepL mu lf P Y kd ow dd rh tr) t + stepL mu lf P Y kd ow dd rh (up1 tr t o) t := by
  rw [sumN, sumN_cong t (fun u hu => stepL_cong (fun v hv => ?_))]
  rw [up1, if_neg (by omega)]
theorem covN_le {p t : Nat} : covN P Y kd ow dd p t ≤ 5 := by
  unfold covN
  split
  · omega
  · split <;> split <;> (try split) <;> omega
theorem ownL_le {t : Nat} : ownL mu P Y kd ow dd tr t ≤ 320 := by
  unfold ownL
  split
  · have := cntB_le (mu t) 30; omega
  · have := covN_le (P := P) (Y := Y) (kd := kd) (ow := ow) (dd := dd) (p := ‹Nat›) (t := t)
    unfold hadN
    split <;> omega
theorem dnN_le {t u : Nat} : dnN Y ow rh tr t u ≤ 6 := by unfold dnN; split <;> omega
theorem liftL_le {t : Nat} : liftL lf Y ow rh tr t ≤ t * 360 := by
  refine sumN_le (fun u _ => ?_)
  have h1 := cntB_le (fun c => decide (lf c = some (t, u))) 30
  have h2 := cntB_le (fun c => decide (lf c = some (u, t))) 30
  have h3 := Nat.mul_le_mul h1 (dnN_le (Y := Y) (ow := ow) (rh := rh) (tr := tr) (t := t) (u := u))
  have h4 := Nat.mul_le_mul h2 (dnN_le (Y := Y) (ow := ow) (rh := rh) (tr := tr) (t := u) (u := t))
  unfold LC
  omega
theorem acc_lt {n : Nat} (hn : n ≤ 8) : sumN (stepL mu lf P Y kd ow dd rh tr) n < 1000000 := by
  have := sumN_le (f := stepL mu lf P Y kd ow dd rh tr) (k := 3200) (n := n) (fun i hi => by
    have h1 := ownL_le (mu := mu) (P := P) (Y := Y) (kd := kd) (ow := ow) (dd := dd) (tr := tr) (t := i)
    have h2 := liftL_le (lf := lf) (Y := Y) (ow := ow) (rh := rh) (tr := tr) (t := i)
    unfold stepL
    omega)
  omega
/-- the whole loss, as the model adds it -/
theorem loss_eq (w : ∀ c x y, lf c = some (x, y) → x < T ∧ y < T ∧ x ≠ y) : sumN (ownL mu P Y kd ow dd tr) T + sumN (cueL lf (dnN Y ow rh tr)) 30 = sumN (stepL mu lf P Y kd ow dd rh tr) T := by
  rw [← lifts_eq (T := T) (dnN Y ow rh tr) w 30, show dbl (fun t u => LC lf 30 t u * dnN Y ow rh tr t u) T = sumN (liftL lf Y ow rh tr) T from rfl, ← sumN_add]
  rfl
end PLOSS
/-! masks -/
def maskB (b : Nat → Bool) : Nat → Nat
  | 0 => 0
  | n + 1 => if b n then setb (maskB b n) n true else maskB b n
theorem maskB_lt {b : Nat → Bool} : ∀ {n : Nat}, n ≤ 10 → maskB b n < 1024
  | 0, _ => by rw [maskB]; omega
  | n + 1, h => by
    have ih := maskB_lt (b := b) (n := n) (by omega)
    rw [maskB]
    split
    · exact setb_lt10 ih (by omega)
    · exact ih
theorem maskB_bit {b : Nat → Bool} {q : Nat} : ∀ n, (maskB b n).testBit q = (decide (q < n) && b q)
  | 0 => by simp [maskB]
  | n + 1 => by
    have ih := maskB_bit (b := b) (q := q) n
    rw [maskB]
    by_cases e : q = n
    · subst e
      rw [decide_eq_true (by omega), Bool.true_and]
      cases hb : b q with
      | true => rw [if_pos rfl, tb_setb, if_pos rfl]
      | false => rw [if_neg (by simp), ih, hb]; simp
    · rw [show decide (q < n + 1) = decide (q < n) by simp; omega, ← ih]
      split
      · rw [tb_setb, if_neg e]
      · rfl
theorem nI_andN (a b : Nat) : nI a &&& (nI b ^^^ (-1)) = nI (a &&& (a ^^^ b)) := by
  apply Int32.toBitVec_inj.mp
  show BitVec.ofNat 32 a &&& (BitVec.ofNat 32 b ^^^ (-1#32)) = BitVec.ofNat 32 (a &&& (a ^^^ b))
  apply BitVec.eq_of_getLsbD_eq
  intro i hi
  rw [show (-1#32 : BitVec 32) = BitVec.allOnes 32 from by decide, BitVec.getLsbD_and, BitVec.getLsbD_xor, BitVec.getLsbD_ofNat, BitVec.getLsbD_ofNat, BitVec.getLsbD_ofNat, BitVec.getLsbD_allOnes, Nat.testBit_and, Nat.testBit_xor]
  simp only [hi, decide_true, Bool.true_and]
  cases a.testBit i <;> cases b.testBit i <;> rfl
theorem free_bit {a b q : Nat} (ha : a < 1024) (hq : q < 10) : ((((nI a &&& (nI b ^^^ (-1))) >>> (nI q &&& 31)) &&& 1) = 1) ↔ (a.testBit q && !b.testBit q) = true := by
  rw [nI_andN, bt_and1 _ (Nat.lt_of_le_of_lt Nat.and_le_left ha) q hq, Nat.testBit_and, Nat.testBit_xor]
  cases a.testBit q <;> cases b.testBit q <;> decide
