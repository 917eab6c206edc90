/-! TONIGHT: who holds what; the calls that only look -/
theorem nI_or (a b : Nat) : nI a ||| nI b = nI (a ||| b) := by
  apply Int32.toBitVec_inj.mp
  show BitVec.ofNat 32 a ||| BitVec.ofNat 32 b = BitVec.ofNat 32 (a ||| b)
  apply BitVec.eq_of_getLsbD_eq
  intro i hi
  simp [BitVec.getLsbD_ofNat, Nat.testBit_or, hi]
/-- the people, as bits, who hold some track of the first n that is in a cue -/
def hmask (pl ho : Nat → Nat → Option Nat) (c : Nat) : Nat → Nat
  | 0 => 0
  | n + 1 => if inB pl n c then (match ho n c with
    | some p => setb (hmask pl ho c n) p true
    | none => hmask pl ho c n) else hmask pl ho c n
theorem setb_lt10 {m q : Nat} {on : Bool} (hm : m < 1024) (hq : q < 10) : setb m q on < 1024 := setb_lt (P := 10) hm hq
theorem hmask_lt {pl ho : Nat → Nat → Option Nat} {c : Nat} (hho : ∀ t p, ho t c = some p → p < 10) : ∀ n, hmask pl ho c n < 1024
  | 0 => by rw [hmask]; decide
  | n + 1 => by
    have ih := hmask_lt (pl := pl) hho n
    rw [hmask]
    split
    · split
      · rename_i p hp; exact setb_lt10 ih (hho n p hp)
      · exact ih
    · exact ih
theorem hmask_bit {pl ho : Nat → Nat → Option Nat} {c p : Nat} : ∀ n, (hmask pl ho c n).testBit p = anyB (fun u => inB pl u c && decide (ho u c = some p)) n
  | 0 => by simp [hmask, anyB]
  | n + 1 => by
    have ih := hmask_bit (pl := pl) (ho := ho) (c := c) (p := p) n
    rw [hmask, anyB, ← ih]
    cases hi : inB pl n c with
    | false => simp
    | true =>
      simp only [if_true, Bool.true_and]
      cases hh : ho n c with
      | none => simp
      | some q =>
        dsimp only
        rw [tb_setb]
        by_cases e : p = q
        · subst e; simp
        · rw [if_neg e, decide_eq_false (fun z => e (by cases z; rfl))]; simp
section NIGHT
variable {D : va_G} {d : Nat} {Q : Int32 → gF → (Nat → Int64) → Prop} {Qv : gF → (Nat → Int64) → Prop} {F F' : gF} {G : Nat → Int64} {T P Y : Nat} {dr : Nat → Nat} {pl : Nat → Nat → Option Nat} {mu : Nat → Nat → Bool} {lf : Nat → Option (Nat × Nat)} {kd sz : Nat → Nat} {ow : Nat → Option Nat} {dd rh : Nat → Nat → Option Nat} {fm ou : Nat → Nat} {hc : Bool} {ca : Nat → Option Nat} {ho : Nat → Nat → Option Nat}
theorem c_castAt1 (s : CSh T dr pl mu lf F) (n : CNi hc ca ho F) {t : Nat} (ht : t < T) (h : Q (oN (ca t)) F G) : AMi D (d + 2) nNight_castAt [.ref 16, .int (nI t)] F G Q := by
  have hT := s.1
  refine eNight_castAt (c_isTrack1 s ht ⟨fun e => absurd e ne10, fun _ => ⟨(ix1 (by omega) (by omega)).1, ?_⟩⟩)
  rw [(ix1 (n := 8) (c := t) (by omega) (by omega)).2, n.2.1 t (by omega)]
  exact h
theorem c_hasCast1 (n : CNi hc ca ho F) (h : Q (bI hc) F G) : AMi D (d + 1) nNight_hasCast [.ref 16] F G Q := by
  refine eNight_hasCast ?_
  rw [n.1]
  exact ⟨bI_nar _, h⟩
theorem c_holderAt1 (s : CSh T dr pl mu lf F) (n : CNi true ca ho F) {t c : Nat} (ht : t < T) (hcu : c < 30) (h : Q (oN (ho t c)) F G) : AMi D (d + 2) nNight_holderAt [.ref 16, .int (nI t), .int (nI c)] F G Q := by
  have hT := s.1
  refine eNight_holderAt (c_isTrack1 s ht ⟨fun e => absurd e ne10, fun _ => c_isCue1 hcu ⟨fun e => absurd e ne10, fun _ => ?_⟩⟩)
  obtain ⟨e1, e2⟩ := ix30 (t := t) (c := c) (by omega) hcu
  refine ⟨e1, ?_⟩
  rw [e2, n.2.2 rfl t c (by omega) hcu]
  exact h
theorem c_holdersIn1 (s : CSh T dr pl mu lf F) (w : WSh T dr pl mu lf) (n : CNi true ca ho F) (hho : ∀ t c p, ho t c = some p → p < 10) {c : Nat} (hcu : c < 30) (h : Q (nI (hmask pl ho c T)) F G) : AMi D (d + 3) nNight_holdersIn [.ref 16, .int (nI c)] F G Q := by
  have hT := s.1
  refine eNight_holdersIn ?_
  have key : ∀ k i, i + k = T → AWi D (d + 3) nNight_holdersIn 4 [(0, .ref 16), (1, .int (nI c)), (2, .int (nI (hmask pl ho c i))), (3, .int (nI i))] [] F G Q := by
    intro k
    induction k with
    | zero =>
      intro i hi
      refine bNight_holdersIn_4 (c_tracks s ?_)
      rw [nI_leI (by omega) (by omega)]
      refine ⟨fun _ => ?_, fun e => absurd (by omega) e⟩
      rw [show i = T by omega]
      exact h
    | succ k ih =>
      intro i hi
      refine bNight_holdersIn_4 (c_tracks s ?_)
      rw [nI_leI (by omega) (by omega)]
      refine ⟨fun e => absurd e (by omega), fun _ => c_holderAt1 s n (by omega) hcu (c_isIn1 s w (by omega) hcu ?_)⟩
      have hn := ih (i + 1) (by omega)
      rw [← nI_1, hmask] at hn
      refine ⟨fun e => ?_, fun e => ?_⟩
      · rw [bI_0] at e
        rw [if_neg (by rw [e]; decide)] at hn
        exact hn
      · rw [bI_n0] at e
        rw [if_pos e] at hn
        rw [oN_N (fun k hk => by have := hho i c k hk; omega)]
        cases hh : ho i c with
        | none => rw [hh] at hn; exact ⟨fun _ => hn, fun e => absurd rfl e⟩
        | some p =>
          rw [hh] at hn
          dsimp only at hn
          refine ⟨fun e => (by cases e), fun _ => ?_⟩
          rw [oN_some, bt_or (hmask pl ho c i) (hmask_lt (fun t p hp => hho t c p hp) i) p (hho i c p hh)]
          exact hn
  exact key T 0 (by omega)
theorem m_who1 (s : MSh T dr pl mu lf F) (w : WSh T dr pl mu lf) (n : MNi true ca ho F) (hho : ∀ t c p, ho t c = some p → p < 10) {c : Nat} (hcu : c < 30) (h : Q (nI (hmask pl ho c T)) F G) : AMi D (d + 3) nModel_who [.ref 39, .int (nI c)] F G Q := by
  have hT := s.1
  have key : ∀ k i, i + k = T → AWi D (d + 3) nModel_who 24 [(0, .ref 39), (1, .int (nI c)), (2, .int (nI (hmask pl ho c i))), (3, .int (nI i))] [] F G Q := by
    intro k
    induction k with
    | zero =>
      intro i hi
      refine bModel_who_24 ?_
      rw [s.2.1, nI_leI (by omega) (by omega)]
      refine ⟨fun _ => ?_, fun e => absurd (by omega) e⟩
      rw [show i = T by omega]
      exact h
    | succ k ih =>
      intro i hi
      obtain ⟨e1, e2⟩ := jx30 (t := i) (c := c) (by omega) hcu
      have hor : ∀ x : Int32, x ||| 0 = x := fun x => Int32.or_zero
      refine bModel_who_24 ?_
      rw [s.2.1, nI_leI (by omega) (by omega)]
      refine ⟨fun e => absurd e (by omega), fun _ => ⟨e1, m_is1 s w (by omega) hcu ?_⟩⟩
      have hn := ih (i + 1) (by omega)
      rw [← nI_1, hmask] at hn
      rw [hor, e2, n.2.2 rfl i c (by omega) hcu, oM_neg (fun k hk => by have := hho i c k hk; omega)]
      refine ⟨fun e => ?_, fun e => ?_⟩
      · rw [bI_0] at e
        rw [if_neg (by rw [e]; decide)] at hn
        exact hn
      · rw [bI_n0] at e
        rw [if_pos e] at hn
        cases hh : ho i c with
        | none => rw [hh] at hn; exact ⟨fun _ => hn, fun e => absurd rfl e⟩
        | some p =>
          rw [hh] at hn
          dsimp only at hn
          refine ⟨fun e => (by cases e), fun _ => ?_⟩
          rw [oM_some, bt_or (hmask pl ho c i) (hmask_lt (fun t p hp => hho t c p hp) i) p (hho i c p hh)]
          exact hn
  refine eModel_who (m_isCue1 hcu ⟨fun _ => ⟨fun _ => key T 0 (by omega), fun e => absurd e ?_⟩, fun e => absurd e ne10⟩)
  rw [n.1]
  exact ne10
theorem m_isDoneA (A : Nat) (hA : A = 51) (s : MSh T dr pl mu lf F) (w : WSh T dr pl mu lf) (v : MCo P Y kd sz ow dd rh fm ou F) (wc : WCo T P Y kd sz ow dd rh fm ou) {by_ : Nat → Option Nat} (hb : ∀ t, t < 8 → F 51 t = oM (by_ t)) (hp : ∀ t p, by_ t = some p → p < P) {c x y : Nat} (hcu : c < 30) (hl : lf c = some (x, y)) (h : Q (bI (doneB Y ow rh (by_ x) x (by_ y) y)) F G) : AMi D (d + 2) nModel_isDone [.ref 39, .int (nI c), .ref 52] F G Q := by
  have hT := s.1
  have hP := v.1
  have hxy := w.2.2.2 c x y hl
  have hi := ix1 (n := 30) hcu (by omega)
  have hix := ix1 (n := 8) (c := x) (by omega) (by omega)
  have hiy := ix1 (n := 8) (c := y) (by omega) (by omega)
  have e42 : F 42 c = nI x := by rw [s.2.2.2.2.2.1 c hcu, hl]; rfl
  have e43 : F 43 c = nI y := s.2.2.2.2.2.2 c x y hcu hl
  have hsp : ∀ t k, by_ t = some k → k < 2 ^ 31 := fun t k hk => by have := hp t k hk; omega
  refine eModel_isDone_1 ?_
  rw [hi.2, e42, e43, hix.2, hiy.2, hb x (by omega), hb y (by omega), oM_neg (hsp x), oM_pos (hsp y)]
  refine ⟨hi.1, hix.1, hi.1, hiy.1, ?_⟩
  unfold doneB at h
  cases hx : by_ x with
  | none => rw [hx] at h; exact ⟨fun _ => h, fun e => absurd rfl e⟩
  | some p =>
    cases hy : by_ y with
    | none => rw [hx, hy] at h; exact ⟨fun e => (by cases e), fun _ => ⟨fun e => absurd rfl e, fun _ => h⟩⟩
    | some q =>
      rw [hx, hy] at h
      dsimp only at h
      have hpP := hp x p hx
      have hqP := hp y q hy
      have hip := ix1 (n := 10) (c := p) (by omega) (by omega)
      have hiq := ix1 (n := 10) (c := q) (by omega) (by omega)
      rw [oM_some, oM_some, hip.2, hiq.2, v.2.2.2.2.2.2.1 p hpP, v.2.2.2.2.2.2.1 q hqP, oM_eq (by omega) (fun k hk => by have := wc.2.2.1 p k hk; omega), oM_eq (by omega) (fun k hk => by have := wc.2.2.1 q k hk; omega)]
      have b61 : (decide (ow p = some x) && decide (ow q = some y)) = false → AWi D (d + 2) nModel_isDone 61 [(0, .ref 39), (1, .int (nI c)), (2, .ref 52), (3, .int (nI p)), (4, .int (nI q))] [] F G Q := by
        intro hz
        rw [hz, Bool.false_or] at h
        refine bModel_isDone_1_61 (m_isReh1 v wc hpP hqP ⟨fun e => ?_, fun e => ?_⟩)
        · rw [bI_0] at e; rw [e] at h; exact h
        · rw [bI_n0] at e; rw [e] at h; exact h
      refine ⟨fun e => (by cases e), fun _ => ⟨fun _ => ⟨hip.1, hi.1, fun e => b61 (by rw [decide_eq_false e]; rfl), fun e => ⟨hiq.1, hi.1, fun e2 => ?_, fun e2 => b61 (by rw [decide_eq_false e2]; simp)⟩⟩, fun e => absurd (by simp) e⟩⟩
      rw [decide_eq_true e, decide_eq_true e2] at h
      exact h
theorem c_isLiftDone1 (s : CSh T dr pl mu lf F) (w : WSh T dr pl mu lf) (v : CCo P Y kd sz ow dd rh fm ou F) (wc : WCo T P Y kd sz ow dd rh fm ou) (n : CNi hc ca ho F) (hp : ∀ t p, ca t = some p → p < P) {c x y : Nat} (hcu : c < 30) (hl : lf c = some (x, y)) (h : Q (bI (doneB Y ow rh (ca x) x (ca y) y)) F G) : AMi D (d + 4) nNight_isLiftDone [.ref 16, .int (nI c)] F G Q := by
  have hT := s.1
  have hxy := w.2.2.2 c x y hl
  refine eNight_isLiftDone (c_lifterIn1 s hcu (c_liftedIn1 s hcu ?_))
  rw [hl]
  refine c_castAt1 s n hxy.1 (c_castAt1 s n hxy.2.1 (c_doLift1 v wc hT (hp x) (hp y) (by omega) (by omega) ⟨bI_nar _, h⟩))
theorem st_has {a : Int32} : Step D (d + 3) nDesk_has nModel_has [.int a] := by
  intro F G ⟨T, dr, pl, mu, lf, P, Y, kd, sz, ow, dd, rh, fm, ou, hc, ca, ho, sl, sv, hS, hC, hN, hT⟩
  have same : RI F := ⟨T, dr, pl, mu, lf, P, Y, kd, sz, ow, dd, rh, fm, ou, hc, ca, ho, sl, sv, hS, hC, hN, hT⟩
  have hT8 := hS.1.1
  have hP := hC.1.1
  refine eDesk_has (c_isTrack hS.1 (fun t ht ea => ⟨fun e => absurd e ne10, fun _ => ?_⟩) (fun z => ⟨fun _ => eModel_has (m_isTrack0 hS.2.1 z ⟨fun e => absurd rfl e, fun _ => ⟨rfl, same⟩⟩), fun e => absurd rfl e⟩))
  subst ea
  have hi := ix1 (n := 8) (c := t) (by omega) (by omega)
  refine c_castAt1 hS.1 hN.1 ht (eModel_has (m_isTrack1 hS.2.1 ht ⟨fun _ => ?_, fun e => absurd e ne10⟩))
  rw [hN.2.1.1, bI_0]
  refine ⟨fun e => ⟨by rw [hN.2.2.1 e t]; rfl, same⟩, fun e => ⟨hi.1, ?_⟩⟩
  have he : hc = true := by cases hc; exact absurd rfl e; rfl
  rw [hi.2, hN.2.1.2.1 he t (by omega), oM_neg (fun k hk => by have := hN.2.2.2.1 t k hk; omega)]
  cases hca : ca t with
  | none => exact ⟨fun _ => ⟨rfl, same⟩, fun e => absurd rfl e⟩
  | some p => exact ⟨fun e => (by cases e), fun _ => ⟨hi.1, rfl, same⟩⟩
theorem st_at {a b : Int32} : Step D (d + 3) nDesk_at nModel_at [.int a, .int b] := by
  intro F G ⟨T, dr, pl, mu, lf, P, Y, kd, sz, ow, dd, rh, fm, ou, hc, ca, ho, sl, sv, hS, hC, hN, hT⟩
  have same : RI F := ⟨T, dr, pl, mu, lf, P, Y, kd, sz, ow, dd, rh, fm, ou, hc, ca, ho, sl, sv, hS, hC, hN, hT⟩
  have hT8 := hS.1.1
  have hP := hC.1.1
  refine eDesk_at (c_isTrack hS.1 (fun t ht ea => ⟨fun e => absurd e ne10, fun _ => c_isCue (fun c hcu eb => ⟨fun _ => c_hasCast1 hN.1 ⟨fun e => ?_, fun e => ?_⟩, fun e => absurd e ne10⟩) (fun z => ⟨fun e => absurd rfl e, fun _ => ?_⟩)⟩) (fun z => ⟨fun _ => eModel_at (m_isTrack0 hS.2.1 z ⟨fun _ => ⟨rfl, same⟩, fun e => absurd rfl e⟩), fun e => absurd rfl e⟩))
  · subst ea; subst eb
    refine eModel_at (m_isTrack1 hS.2.1 ht ⟨fun e => absurd e ne10, fun _ => m_isCue1 hcu ⟨fun _ => ⟨fun z => absurd (by rw [hN.2.1.1]; exact e) z, fun _ => ⟨rfl, same⟩⟩, fun e => absurd e ne10⟩⟩)
  · subst ea; subst eb
    have he : hc = true := (bI_n0 _).mp e
    subst he
    obtain ⟨e1, e2⟩ := jx30 (t := t) (c := c) (by omega) hcu
    refine c_holderAt1 hS.1 hN.1 ht hcu (eModel_at (m_isTrack1 hS.2.1 ht ⟨fun e => absurd e ne10, fun _ => m_isCue1 hcu ⟨fun _ => ⟨fun _ => ⟨e1, ?_⟩, fun z => absurd (by rw [hN.2.1.1] at z; exact z) ne10⟩, fun e => absurd e ne10⟩⟩))
    rw [e2, hN.2.1.2.2 rfl t c (by omega) hcu, oM_pos (fun k hk => by have := hN.2.2.2.2 rfl t c k hk; omega)]
    cases hh : ho t c with
    | none => exact ⟨fun e => absurd rfl e, fun _ => ⟨rfl, same⟩⟩
    | some p => exact ⟨fun _ => ⟨rfl, same⟩, fun e => absurd (by simp) e⟩
  · subst ea
    exact eModel_at (m_isTrack1 hS.2.1 ht ⟨fun e => absurd e ne10, fun _ => m_isCue0 z ⟨fun e => absurd rfl e, fun _ => ⟨rfl, same⟩⟩⟩)
theorem st_who {a : Int32} : Step D (d + 4) nDesk_who nModel_who [.int a] := by
  intro F G ⟨T, dr, pl, mu, lf, P, Y, kd, sz, ow, dd, rh, fm, ou, hc, ca, ho, sl, sv, hS, hC, hN, hT⟩
  have same : RI F := ⟨T, dr, pl, mu, lf, P, Y, kd, sz, ow, dd, rh, fm, ou, hc, ca, ho, sl, sv, hS, hC, hN, hT⟩
  have hP := hC.1.1
  refine eDesk_who (c_isCue (fun c hcu ea => ⟨fun _ => c_hasCast1 hN.1 ⟨fun e => ?_, fun e => ?_⟩, fun e => absurd e ne10⟩) (fun z => ⟨fun e => absurd rfl e, fun _ => eModel_who (m_isCue0 z ⟨fun e => absurd rfl e, fun _ => ⟨rfl, same⟩⟩)⟩))
  · subst ea
    exact eModel_who (m_isCue1 hcu ⟨fun _ => ⟨fun z => absurd (by rw [hN.2.1.1]; exact e) z, fun _ => ⟨rfl, same⟩⟩, fun e => absurd e ne10⟩)
  · subst ea
    have he : hc = true := (bI_n0 _).mp e
    subst he
    have hho : ∀ t c p, ho t c = some p → p < 10 := fun t c p hp => by have := hN.2.2.2.2 rfl t c p hp; omega
    exact c_holdersIn1 hS.1 hS.2.2 hN.1 hho hcu (m_who1 hS.2.1 hS.2.2 hN.2.1 hho hcu ⟨rfl, same⟩)
theorem st_done {a : Int32} : Step D (d + 5) nDesk_done nModel_done [.int a] := by
  intro F G ⟨T, dr, pl, mu, lf, P, Y, kd, sz, ow, dd, rh, fm, ou, hc, ca, ho, sl, sv, hS, hC, hN, hT⟩
  have same : RI F := ⟨T, dr, pl, mu, lf, P, Y, kd, sz, ow, dd, rh, fm, ou, hc, ca, ho, sl, sv, hS, hC, hN, hT⟩
  have hP := hC.1.1
  refine eDesk_done (c_isCue (fun c hcu ea => ⟨fun _ => ?_, fun e => absurd e ne10⟩) (fun z => ⟨fun e => absurd rfl e, fun _ => eModel_done (m_isCue0 z ⟨fun e => absurd rfl e, fun _ => ⟨rfl, same⟩⟩)⟩))
  subst ea
  have hi := ix1 (n := 30) hcu (by omega)
  refine c_hasLift1 hS.1 hS.2.2 hcu ?_
  cases hl : lf c with
  | none =>
    refine ⟨fun e => absurd rfl e, fun _ => eModel_done (m_isCue1 hcu ⟨fun _ => ⟨hi.1, ?_⟩, fun e => absurd e ne10⟩)⟩
    rw [hi.2, hS.2.1.2.2.2.2.2.1 c hcu, hl]
    exact ⟨fun e => absurd e (by decide), fun _ => ⟨rfl, same⟩⟩
  | some q =>
    obtain ⟨x, y⟩ := q
    have hxy := hS.2.2.2.2.2 c x y hl
    have hT8 := hS.1.1
    have e42 : F 42 c = nI x := by rw [hS.2.1.2.2.2.2.2.1 c hcu, hl]; rfl
    refine ⟨fun _ => c_hasCast1 hN.1 ⟨fun e => ?_, fun e => ?_⟩, fun e => absurd e ne10⟩
    · have he : hc = true := (bI_n0 _).mp e
      subst he
      have fin : ∀ b : Bool, doneB Y ow rh (ca x) x (ca y) y = b → AMi D (d + 5) nModel_done [.ref 39, .int (nI c)] F G (fun r' F2 _ => bI b = r' ∧ RI F2) := by
        intro b hb
        refine eModel_done (m_isCue1 hcu ⟨fun _ => ⟨hi.1, ?_⟩, fun e => absurd e ne10⟩)
        rw [hi.2, e42]
        refine ⟨fun _ => ⟨fun _ => m_isDoneA 51 rfl hS.2.1 hS.2.2 hC.2.1 hC.2.2 (hN.2.1.2.1 rfl) hN.2.2.2.1 hcu hl ?_, fun z => absurd (by rw [hN.2.1.1] at z; exact z) ne10⟩, fun z => absurd (nI_pos' (by omega)) z⟩
        rw [hb]
        cases b with
        | true => exact ⟨fun z => absurd z ne10, fun _ => ⟨rfl, same⟩⟩
        | false => exact ⟨fun _ => ⟨rfl, same⟩, fun z => absurd rfl z⟩
      refine c_isLiftDone1 hS.1 hS.2.2 hC.1 hC.2.2 hN.1 hN.2.2.2.1 hcu hl ⟨fun e => ?_, fun e => ?_⟩
      · exact fin false ((bI_0 _).mp e)
      · exact fin true ((bI_n0 _).mp e)
    · refine eModel_done (m_isCue1 hcu ⟨fun _ => ⟨hi.1, ?_⟩, fun e => absurd e ne10⟩)
      rw [hi.2, e42]
      exact ⟨fun _ => ⟨fun z => absurd (by rw [hN.2.1.1]; exact e) z, fun _ => ⟨rfl, same⟩⟩, fun z => absurd (nI_pos' (by omega)) z⟩
end NIGHT
