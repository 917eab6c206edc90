/-! THE HEAP behind the constructors: F k i: what place i of cell k holds (k above 99: a field that is a number), G: the worths -/
def gShs : Nat → Option Nat := va_up (va_up (fun _ => none) 0 (some 35)) 1 (some 37)
def upA (F : Nat → Nat → Int32) (k : Nat) (f : Nat → Int32) : Nat → Nat → Int32 := fun j => if j = k then f else F j
abbrev up (F : Nat → Nat → Int32) (k i : Nat) (x : Int32) : Nat → Nat → Int32 := upA F k (upd (F k) i x)
abbrev upS (F : Nat → Nat → Int32) (k : Nat) (x : Int32) : Nat → Nat → Int32 := upA F k (fun _ => x)
theorem upA_same (F : Nat → Nat → Int32) (k : Nat) (f : Nat → Int32) : upA F k f k = f := by simp [upA]
theorem upA_ne (F : Nat → Nat → Int32) {k j : Nat} (f : Nat → Int32) (h : j ≠ k) : upA F k f j = F j := by simp [upA, h]
def mk (F : Nat → Nat → Int32) (G : Nat → Int64) : gAH := [
  .inr (6, [.ref 2, .ref 8, .ref 16, .ref 19, .ref 29, .ref 34]),
  .inr (5, [.int (F 100 0), .ref 3, .ref 4, .ref 5, .ref 6, .ref 7]),
  .inl (.int, 8, .inl (F 2)),
  .inl (.int, 240, .inl (F 3)),
  .inl (.int, 240, .inl (F 4)),
  .inl (.int, 30, .inl (F 5)),
  .inl (.int, 30, .inl (F 6)),
  .inr (1, [.int (F 101 0), .int (F 102 0), .ref 9, .ref 10, .ref 11, .ref 12, .ref 13, .ref 14, .ref 15]),
  .inl (.int, 10, .inl (F 8)),
  .inl (.int, 10, .inl (F 9)),
  .inl (.int, 10, .inl (F 10)),
  .inl (.int, 80, .inl (F 11)),
  .inl (.int, 100, .inl (F 12)),
  .inl (.int, 10, .inl (F 13)),
  .inl (.int, 10, .inl (F 14)),
  .inr (2, [.ref 2, .ref 8, .int (F 103 0), .ref 17, .ref 18]),
  .inl (.int, 8, .inl (F 16)),
  .inl (.int, 240, .inl (F 17)),
  .inr (0, [.ref 2, .ref 8, .ref 20, .ref 21, .ref 22, .ref 23, .ref 24, .ref 25, .ref 26, .ref 27, .ref 28, .int (F 104 0), .int (F 105 0), .int (F 106 0)]),
  .inl (.int, 8, .inl (F 19)),
  .inl (.int, 8, .inl (F 20)),
  .inl (.int, 8, .inl (F 21)),
  .inl (.int, 8, .inl (F 22)),
  .inl (.int, 80, .inl (F 23)),
  .inl (.int, 64, .inl (F 24)),
  .inl (.int, 8, .inl (F 25)),
  .inl (.int, 10, .inl (F 26)),
  .inl (.int, 8, .inl (F 27)),
  .inr (3, [.ref 2, .ref 8, .ref 30, .ref 31, .ref 32, .ref 33, .int (F 107 0)]),
  .inl (.int, 8, .inl (F 29)),
  .inl (.int, 8, .inl (F 30)),
  .inl (.int, 8, .inl (F 31)),
  .inl (.long, 576, .inr (.inl G)),
  .inl (.object "SwingDesk$Sheet", 2, .inr (.inr (.inr (.inr gShs)))),
  .inr (4, [.int (F 108 0), .ref 36]),
  .inl (.byte, 30, .inl (F 35)),
  .inr (4, [.int (F 109 0), .ref 38]),
  .inl (.byte, 30, .inl (F 37)),
  .inr (7, [.int (F 110 0), .ref 40, .ref 41, .ref 42, .ref 43, .ref 44, .int (F 111 0), .ref 45, .ref 46, .ref 47, .ref 48, .ref 49, .ref 50, .ref 51, .int (F 112 0), .int (F 113 0), .ref 52, .ref 53, .ref 54, .ref 55, .ref 56, .ref 57, .int (F 114 0), .int (F 115 0), .int (F 116 0), .ref 58, .ref 59, .ref 60]),
  .inl (.int, 8, .inl (F 39)),
  .inl (.int, 240, .inl (F 40)),
  .inl (.int, 240, .inl (F 41)),
  .inl (.int, 30, .inl (F 42)),
  .inl (.int, 30, .inl (F 43)),
  .inl (.int, 10, .inl (F 44)),
  .inl (.int, 10, .inl (F 45)),
  .inl (.int, 10, .inl (F 46)),
  .inl (.int, 80, .inl (F 47)),
  .inl (.int, 100, .inl (F 48)),
  .inl (.int, 10, .inl (F 49)),
  .inl (.int, 10, .inl (F 50)),
  .inl (.int, 8, .inl (F 51)),
  .inl (.int, 240, .inl (F 52)),
  .inl (.int, 2, .inl (F 53)),
  .inl (.int, 60, .inl (F 54)),
  .inl (.int, 8, .inl (F 55)),
  .inl (.int, 8, .inl (F 56)),
  .inl (.int, 72171, .inl (F 57)),
  .inl (.int, 9, .inl (F 58)),
  .inl (.int, 30, .inl (F 59))]
section GMK
variable {X : gCx} {M : gMd} {pc : Nat} {L : List (Nat × Value)} {S : List Value} {kc ks : Nat} {F : Nat → Nat → Int32} {G : Nat → Int64}
theorem mk_0 : (mk F G)[0]? = some (.inr (6, [.ref 2, .ref 8, .ref 16, .ref 19, .ref 29, .ref 34])) := rfl
theorem mk_1 : (mk F G)[1]? = some (.inr (5, [.int (F 100 0), .ref 3, .ref 4, .ref 5, .ref 6, .ref 7])) := rfl
theorem mk_2 : (mk F G)[2]? = some (.inl (.int, 8, .inl (F 2))) := rfl
theorem ms_2 (f : Nat → Int32) : (mk F G).set 2 (.inl (.int, 8, .inl f)) = mk (upA F 2 f) G := rfl
theorem ga_2 (C : gC X M) {i : Int32} (hin : vp_in i 8) (hd : decode M.2.1 pc = .ok (.iaload, 1)) (k : GW X M (pc + 1) L (.int (F 2 i.toNatClampNeg) :: S) (mk F G) kc ks) : GW X M pc L (.int i :: .ref 3 :: S) (mk F G) kc ks := gw_iald C mk_2 hin hd k
theorem gs_2 (C : gC X M) {i x : Int32} (hin : vp_in i 8) (hd : decode M.2.1 pc = .ok (.iastore, 1)) (k : GW X M (pc + 1) L S (mk (up F 2 i.toNatClampNeg x) G) kc ks) : GW X M pc L (.int x :: .int i :: .ref 3 :: S) (mk F G) kc ks := gw_iast C mk_2 hin hd k
theorem mk_3 : (mk F G)[3]? = some (.inl (.int, 240, .inl (F 3))) := rfl
theorem ms_3 (f : Nat → Int32) : (mk F G).set 3 (.inl (.int, 240, .inl f)) = mk (upA F 3 f) G := rfl
theorem ga_3 (C : gC X M) {i : Int32} (hin : vp_in i 240) (hd : decode M.2.1 pc = .ok (.iaload, 1)) (k : GW X M (pc + 1) L (.int (F 3 i.toNatClampNeg) :: S) (mk F G) kc ks) : GW X M pc L (.int i :: .ref 4 :: S) (mk F G) kc ks := gw_iald C mk_3 hin hd k
theorem gs_3 (C : gC X M) {i x : Int32} (hin : vp_in i 240) (hd : decode M.2.1 pc = .ok (.iastore, 1)) (k : GW X M (pc + 1) L S (mk (up F 3 i.toNatClampNeg x) G) kc ks) : GW X M pc L (.int x :: .int i :: .ref 4 :: S) (mk F G) kc ks := gw_iast C mk_3 hin hd k
theorem mk_4 : (mk F G)[4]? = some (.inl (.int, 240, .inl (F 4))) := rfl
theorem ms_4 (f : Nat → Int32) : (mk F G).set 4 (.inl (.int, 240, .inl f)) = mk (upA F 4 f) G := rfl
theorem ga_4 (C : gC X M) {i : Int32} (hin : vp_in i 240) (hd : decode M.2.1 pc = .ok (.iaload, 1)) (k : GW X M (pc + 1) L (.int (F 4 i.toNatClampNeg) :: S) (mk F G) kc ks) : GW X M pc L (.int i :: .ref 5 :: S) (mk F G) kc ks := gw_iald C mk_4 hin hd k
theorem gs_4 (C : gC X M) {i x : Int32} (hin : vp_in i 240) (hd : decode M.2.1 pc = .ok (.iastore, 1)) (k : GW X M (pc + 1) L S (mk (up F 4 i.toNatClampNeg x) G) kc ks) : GW X M pc L (.int x :: .int i :: .ref 5 :: S) (mk F G) kc ks := gw_iast C mk_4 hin hd k
theorem mk_5 : (mk F G)[5]? = some (.inl (.int, 30, .inl (F 5))) := rfl
theorem ms_5 (f : Nat → Int32) : (mk F G).set 5 (.inl (.int, 30, .inl f)) = mk (upA F 5 f) G := rfl
theorem ga_5 (C : gC X M) {i : Int32} (hin : vp_in i 30) (hd : decode M.2.1 pc = .ok (.iaload, 1)) (k : GW X M (pc + 1) L (.int (F 5 i.toNatClampNeg) :: S) (mk F G) kc ks) : GW X M pc L (.int i :: .ref 6 :: S) (mk F G) kc ks := gw_iald C mk_5 hin hd k
theorem gs_5 (C : gC X M) {i x : Int32} (hin : vp_in i 30) (hd : decode M.2.1 pc = .ok (.iastore, 1)) (k : GW X M (pc + 1) L S (mk (up F 5 i.toNatClampNeg x) G) kc ks) : GW X M pc L (.int x :: .int i :: .ref 6 :: S) (mk F G) kc ks := gw_iast C mk_5 hin hd k
theorem mk_6 : (mk F G)[6]? = some (.inl (.int, 30, .inl (F 6))) := rfl
theorem ms_6 (f : Nat → Int32) : (mk F G).set 6 (.inl (.int, 30, .inl f)) = mk (upA F 6 f) G := rfl
theorem ga_6 (C : gC X M) {i : Int32} (hin : vp_in i 30) (hd : decode M.2.1 pc = .ok (.iaload, 1)) (k : GW X M (pc + 1) L (.int (F 6 i.toNatClampNeg) :: S) (mk F G) kc ks) : GW X M pc L (.int i :: .ref 7 :: S) (mk F G) kc ks := gw_iald C mk_6 hin hd k
theorem gs_6 (C : gC X M) {i x : Int32} (hin : vp_in i 30) (hd : decode M.2.1 pc = .ok (.iastore, 1)) (k : GW X M (pc + 1) L S (mk (up F 6 i.toNatClampNeg x) G) kc ks) : GW X M pc L (.int x :: .int i :: .ref 7 :: S) (mk F G) kc ks := gw_iast C mk_6 hin hd k
theorem mk_7 : (mk F G)[7]? = some (.inr (1, [.int (F 101 0), .int (F 102 0), .ref 9, .ref 10, .ref 11, .ref 12, .ref 13, .ref 14, .ref 15])) := rfl
theorem mk_8 : (mk F G)[8]? = some (.inl (.int, 10, .inl (F 8))) := rfl
theorem ms_8 (f : Nat → Int32) : (mk F G).set 8 (.inl (.int, 10, .inl f)) = mk (upA F 8 f) G := rfl
theorem ga_8 (C : gC X M) {i : Int32} (hin : vp_in i 10) (hd : decode M.2.1 pc = .ok (.iaload, 1)) (k : GW X M (pc + 1) L (.int (F 8 i.toNatClampNeg) :: S) (mk F G) kc ks) : GW X M pc L (.int i :: .ref 9 :: S) (mk F G) kc ks := gw_iald C mk_8 hin hd k
theorem gs_8 (C : gC X M) {i x : Int32} (hin : vp_in i 10) (hd : decode M.2.1 pc = .ok (.iastore, 1)) (k : GW X M (pc + 1) L S (mk (up F 8 i.toNatClampNeg x) G) kc ks) : GW X M pc L (.int x :: .int i :: .ref 9 :: S) (mk F G) kc ks := gw_iast C mk_8 hin hd k
theorem mk_9 : (mk F G)[9]? = some (.inl (.int, 10, .inl (F 9))) := rfl
theorem ms_9 (f : Nat → Int32) : (mk F G).set 9 (.inl (.int, 10, .inl f)) = mk (upA F 9 f) G := rfl
theorem ga_9 (C : gC X M) {i : Int32} (hin : vp_in i 10) (hd : decode M.2.1 pc = .ok (.iaload, 1)) (k : GW X M (pc + 1) L (.int (F 9 i.toNatClampNeg) :: S) (mk F G) kc ks) : GW X M pc L (.int i :: .ref 10 :: S) (mk F G) kc ks := gw_iald C mk_9 hin hd k
theorem gs_9 (C : gC X M) {i x : Int32} (hin : vp_in i 10) (hd : decode M.2.1 pc = .ok (.iastore, 1)) (k : GW X M (pc + 1) L S (mk (up F 9 i.toNatClampNeg x) G) kc ks) : GW X M pc L (.int x :: .int i :: .ref 10 :: S) (mk F G) kc ks := gw_iast C mk_9 hin hd k
theorem mk_10 : (mk F G)[10]? = some (.inl (.int, 10, .inl (F 10))) := rfl
theorem ms_10 (f : Nat → Int32) : (mk F G).set 10 (.inl (.int, 10, .inl f)) = mk (upA F 10 f) G := rfl
theorem ga_10 (C : gC X M) {i : Int32} (hin : vp_in i 10) (hd : decode M.2.1 pc = .ok (.iaload, 1)) (k : GW X M (pc + 1) L (.int (F 10 i.toNatClampNeg) :: S) (mk F G) kc ks) : GW X M pc L (.int i :: .ref 11 :: S) (mk F G) kc ks := gw_iald C mk_10 hin hd k
theorem gs_10 (C : gC X M) {i x : Int32} (hin : vp_in i 10) (hd : decode M.2.1 pc = .ok (.iastore, 1)) (k : GW X M (pc + 1) L S (mk (up F 10 i.toNatClampNeg x) G) kc ks) : GW X M pc L (.int x :: .int i :: .ref 11 :: S) (mk F G) kc ks := gw_iast C mk_10 hin hd k
theorem mk_11 : (mk F G)[11]? = some (.inl (.int, 80, .inl (F 11))) := rfl
theorem ms_11 (f : Nat → Int32) : (mk F G).set 11 (.inl (.int, 80, .inl f)) = mk (upA F 11 f) G := rfl
theorem ga_11 (C : gC X M) {i : Int32} (hin : vp_in i 80) (hd : decode M.2.1 pc = .ok (.iaload, 1)) (k : GW X M (pc + 1) L (.int (F 11 i.toNatClampNeg) :: S) (mk F G) kc ks) : GW X M pc L (.int i :: .ref 12 :: S) (mk F G) kc ks := gw_iald C mk_11 hin hd k
theorem gs_11 (C : gC X M) {i x : Int32} (hin : vp_in i 80) (hd : decode M.2.1 pc = .ok (.iastore, 1)) (k : GW X M (pc + 1) L S (mk (up F 11 i.toNatClampNeg x) G) kc ks) : GW X M pc L (.int x :: .int i :: .ref 12 :: S) (mk F G) kc ks := gw_iast C mk_11 hin hd k
theorem mk_12 : (mk F G)[12]? = some (.inl (.int, 100, .inl (F 12))) := rfl
theorem ms_12 (f : Nat → Int32) : (mk F G).set 12 (.inl (.int, 100, .inl f)) = mk (upA F 12 f) G := rfl
theorem ga_12 (C : gC X M) {i : Int32} (hin : vp_in i 100) (hd : decode M.2.1 pc = .ok (.iaload, 1)) (k : GW X M (pc + 1) L (.int (F 12 i.toNatClampNeg) :: S) (mk F G) kc ks) : GW X M pc L (.int i :: .ref 13 :: S) (mk F G) kc ks := gw_iald C mk_12 hin hd k
theorem gs_12 (C : gC X M) {i x : Int32} (hin : vp_in i 100) (hd : decode M.2.1 pc = .ok (.iastore, 1)) (k : GW X M (pc + 1) L S (mk (up F 12 i.toNatClampNeg x) G) kc ks) : GW X M pc L (.int x :: .int i :: .ref 13 :: S) (mk F G) kc ks := gw_iast C mk_12 hin hd k
theorem mk_13 : (mk F G)[13]? = some (.inl (.int, 10, .inl (F 13))) := rfl
theorem ms_13 (f : Nat → Int32) : (mk F G).set 13 (.inl (.int, 10, .inl f)) = mk (upA F 13 f) G := rfl
theorem ga_13 (C : gC X M) {i : Int32} (hin : vp_in i 10) (hd : decode M.2.1 pc = .ok (.iaload, 1)) (k : GW X M (pc + 1) L (.int (F 13 i.toNatClampNeg) :: S) (mk F G) kc ks) : GW X M pc L (.int i :: .ref 14 :: S) (mk F G) kc ks := gw_iald C mk_13 hin hd k
theorem gs_13 (C : gC X M) {i x : Int32} (hin : vp_in i 10) (hd : decode M.2.1 pc = .ok (.iastore, 1)) (k : GW X M (pc + 1) L S (mk (up F 13 i.toNatClampNeg x) G) kc ks) : GW X M pc L (.int x :: .int i :: .ref 14 :: S) (mk F G) kc ks := gw_iast C mk_13 hin hd k
theorem mk_14 : (mk F G)[14]? = some (.inl (.int, 10, .inl (F 14))) := rfl
theorem ms_14 (f : Nat → Int32) : (mk F G).set 14 (.inl (.int, 10, .inl f)) = mk (upA F 14 f) G := rfl
theorem ga_14 (C : gC X M) {i : Int32} (hin : vp_in i 10) (hd : decode M.2.1 pc = .ok (.iaload, 1)) (k : GW X M (pc + 1) L (.int (F 14 i.toNatClampNeg) :: S) (mk F G) kc ks) : GW X M pc L (.int i :: .ref 15 :: S) (mk F G) kc ks := gw_iald C mk_14 hin hd k
theorem gs_14 (C : gC X M) {i x : Int32} (hin : vp_in i 10) (hd : decode M.2.1 pc = .ok (.iastore, 1)) (k : GW X M (pc + 1) L S (mk (up F 14 i.toNatClampNeg x) G) kc ks) : GW X M pc L (.int x :: .int i :: .ref 15 :: S) (mk F G) kc ks := gw_iast C mk_14 hin hd k
theorem mk_15 : (mk F G)[15]? = some (.inr (2, [.ref 2, .ref 8, .int (F 103 0), .ref 17, .ref 18])) := rfl
theorem mk_16 : (mk F G)[16]? = some (.inl (.int, 8, .inl (F 16))) := rfl
theorem ms_16 (f : Nat → Int32) : (mk F G).set 16 (.inl (.int, 8, .inl f)) = mk (upA F 16 f) G := rfl
theorem ga_16 (C : gC X M) {i : Int32} (hin : vp_in i 8) (hd : decode M.2.1 pc = .ok (.iaload, 1)) (k : GW X M (pc + 1) L (.int (F 16 i.toNatClampNeg) :: S) (mk F G) kc ks) : GW X M pc L (.int i :: .ref 17 :: S) (mk F G) kc ks := gw_iald C mk_16 hin hd k
theorem gs_16 (C : gC X M) {i x : Int32} (hin : vp_in i 8) (hd : decode M.2.1 pc = .ok (.iastore, 1)) (k : GW X M (pc + 1) L S (mk (up F 16 i.toNatClampNeg x) G) kc ks) : GW X M pc L (.int x :: .int i :: .ref 17 :: S) (mk F G) kc ks := gw_iast C mk_16 hin hd k
theorem mk_17 : (mk F G)[17]? = some (.inl (.int, 240, .inl (F 17))) := rfl
theorem ms_17 (f : Nat → Int32) : (mk F G).set 17 (.inl (.int, 240, .inl f)) = mk (upA F 17 f) G := rfl
theorem ga_17 (C : gC X M) {i : Int32} (hin : vp_in i 240) (hd : decode M.2.1 pc = .ok (.iaload, 1)) (k : GW X M (pc + 1) L (.int (F 17 i.toNatClampNeg) :: S) (mk F G) kc ks) : GW X M pc L (.int i :: .ref 18 :: S) (mk F G) kc ks := gw_iald C mk_17 hin hd k
theorem gs_17 (C : gC X M) {i x : Int32} (hin : vp_in i 240) (hd : decode M.2.1 pc = .ok (.iastore, 1)) (k : GW X M (pc + 1) L S (mk (up F 17 i.toNatClampNeg x) G) kc ks) : GW X M pc L (.int x :: .int i :: .ref 18 :: S) (mk F G) kc ks := gw_iast C mk_17 hin hd k
theorem mk_18 : (mk F G)[18]? = some (.inr (0, [.ref 2, .ref 8, .ref 20, .ref 21, .ref 22, .ref 23, .ref 24, .ref 25, .ref 26, .ref 27, .ref 28, .int (F 104 0), .int (F 105 0), .int (F 106 0)])) := rfl
theorem mk_19 : (mk F G)[19]? = some (.inl (.int, 8, .inl (F 19))) := rfl
theorem ms_19 (f : Nat → Int32) : (mk F G).set 19 (.inl (.int, 8, .inl f)) = mk (upA F 19 f) G := rfl
theorem ga_19 (C : gC X M) {i : Int32} (hin : vp_in i 8) (hd : decode M.2.1 pc = .ok (.iaload, 1)) (k : GW X M (pc + 1) L (.int (F 19 i.toNatClampNeg) :: S) (mk F G) kc ks) : GW X M pc L (.int i :: .ref 20 :: S) (mk F G) kc ks := gw_iald C mk_19 hin hd k
theorem gs_19 (C : gC X M) {i x : Int32} (hin : vp_in i 8) (hd : decode M.2.1 pc = .ok (.iastore, 1)) (k : GW X M (pc + 1) L S (mk (up F 19 i.toNatClampNeg x) G) kc ks) : GW X M pc L (.int x :: .int i :: .ref 20 :: S) (mk F G) kc ks := gw_iast C mk_19 hin hd k
theorem mk_20 : (mk F G)[20]? = some (.inl (.int, 8, .inl (F 20))) := rfl
theorem ms_20 (f : Nat → Int32) : (mk F G).set 20 (.inl (.int, 8, .inl f)) = mk (upA F 20 f) G := rfl
theorem ga_20 (C : gC X M) {i : Int32} (hin : vp_in i 8) (hd : decode M.2.1 pc = .ok (.iaload, 1)) (k : GW X M (pc + 1) L (.int (F 20 i.toNatClampNeg) :: S) (mk F G) kc ks) : GW X M pc L (.int i :: .ref 21 :: S) (mk F G) kc ks := gw_iald C mk_20 hin hd k
theorem gs_20 (C : gC X M) {i x : Int32} (hin : vp_in i 8) (hd : decode M.2.1 pc = .ok (.iastore, 1)) (k : GW X M (pc + 1) L S (mk (up F 20 i.toNatClampNeg x) G) kc ks) : GW X M pc L (.int x :: .int i :: .ref 21 :: S) (mk F G) kc ks := gw_iast C mk_20 hin hd k
theorem mk_21 : (mk F G)[21]? = some (.inl (.int, 8, .inl (F 21))) := rfl
theorem ms_21 (f : Nat → Int32) : (mk F G).set 21 (.inl (.int, 8, .inl f)) = mk (upA F 21 f) G := rfl
theorem ga_21 (C : gC X M) {i : Int32} (hin : vp_in i 8) (hd : decode M.2.1 pc = .ok (.iaload, 1)) (k : GW X M (pc + 1) L (.int (F 21 i.toNatClampNeg) :: S) (mk F G) kc ks) : GW X M pc L (.int i :: .ref 22 :: S) (mk F G) kc ks := gw_iald C mk_21 hin hd k
theorem gs_21 (C : gC X M) {i x : Int32} (hin : vp_in i 8) (hd : decode M.2.1 pc = .ok (.iastore, 1)) (k : GW X M (pc + 1) L S (mk (up F 21 i.toNatClampNeg x) G) kc ks) : GW X M pc L (.int x :: .int i :: .ref 22 :: S) (mk F G) kc ks := gw_iast C mk_21 hin hd k
theorem mk_22 : (mk F G)[22]? = some (.inl (.int, 8, .inl (F 22))) := rfl
theorem ms_22 (f : Nat → Int32) : (mk F G).set 22 (.inl (.int, 8, .inl f)) = mk (upA F 22 f) G := rfl
theorem ga_22 (C : gC X M) {i : Int32} (hin : vp_in i 8) (hd : decode M.2.1 pc = .ok (.iaload, 1)) (k : GW X M (pc + 1) L (.int (F 22 i.toNatClampNeg) :: S) (mk F G) kc ks) : GW X M pc L (.int i :: .ref 23 :: S) (mk F G) kc ks := gw_iald C mk_22 hin hd k
theorem gs_22 (C : gC X M) {i x : Int32} (hin : vp_in i 8) (hd : decode M.2.1 pc = .ok (.iastore, 1)) (k : GW X M (pc + 1) L S (mk (up F 22 i.toNatClampNeg x) G) kc ks) : GW X M pc L (.int x :: .int i :: .ref 23 :: S) (mk F G) kc ks := gw_iast C mk_22 hin hd k
theorem mk_23 : (mk F G)[23]? = some (.inl (.int, 80, .inl (F 23))) := rfl
theorem ms_23 (f : Nat → Int32) : (mk F G).set 23 (.inl (.int, 80, .inl f)) = mk (upA F 23 f) G := rfl
theorem ga_23 (C : gC X M) {i : Int32} (hin : vp_in i 80) (hd : decode M.2.1 pc = .ok (.iaload, 1)) (k : GW X M (pc + 1) L (.int (F 23 i.toNatClampNeg) :: S) (mk F G) kc ks) : GW X M pc L (.int i :: .ref 24 :: S) (mk F G) kc ks := gw_iald C mk_23 hin hd k
theorem gs_23 (C : gC X M) {i x : Int32} (hin : vp_in i 80) (hd : decode M.2.1 pc = .ok (.iastore, 1)) (k : GW X M (pc + 1) L S (mk (up F 23 i.toNatClampNeg x) G) kc ks) : GW X M pc L (.int x :: .int i :: .ref 24 :: S) (mk F G) kc ks := gw_iast C mk_23 hin hd k
theorem mk_24 : (mk F G)[24]? = some (.inl (.int, 64, .inl (F 24))) := rfl
theorem ms_24 (f : Nat → Int32) : (mk F G).set 24 (.inl (.int, 64, .inl f)) = mk (upA F 24 f) G := rfl
theorem ga_24 (C : gC X M) {i : Int32} (hin : vp_in i 64) (hd : decode M.2.1 pc = .ok (.iaload, 1)) (k : GW X M (pc + 1) L (.int (F 24 i.toNatClampNeg) :: S) (mk F G) kc ks) : GW X M pc L (.int i :: .ref 25 :: S) (mk F G) kc ks := gw_iald C mk_24 hin hd k
theorem gs_24 (C : gC X M) {i x : Int32} (hin : vp_in i 64) (hd : decode M.2.1 pc = .ok (.iastore, 1)) (k : GW X M (pc + 1) L S (mk (up F 24 i.toNatClampNeg x) G) kc ks) : GW X M pc L (.int x :: .int i :: .ref 25 :: S) (mk F G) kc ks := gw_iast C mk_24 hin hd k
theorem mk_25 : (mk F G)[25]? = some (.inl (.int, 8, .inl (F 25))) := rfl
theorem ms_25 (f : Nat → Int32) : (mk F G).set 25 (.inl (.int, 8, .inl f)) = mk (upA F 25 f) G := rfl
theorem ga_25 (C : gC X M) {i : Int32} (hin : vp_in i 8) (hd : decode M.2.1 pc = .ok (.iaload, 1)) (k : GW X M (pc + 1) L (.int (F 25 i.toNatClampNeg) :: S) (mk F G) kc ks) : GW X M pc L (.int i :: .ref 26 :: S) (mk F G) kc ks := gw_iald C mk_25 hin hd k
theorem gs_25 (C : gC X M) {i x : Int32} (hin : vp_in i 8) (hd : decode M.2.1 pc = .ok (.iastore, 1)) (k : GW X M (pc + 1) L S (mk (up F 25 i.toNatClampNeg x) G) kc ks) : GW X M pc L (.int x :: .int i :: .ref 26 :: S) (mk F G) kc ks := gw_iast C mk_25 hin hd k
theorem mk_26 : (mk F G)[26]? = some (.inl (.int, 10, .inl (F 26))) := rfl
theorem ms_26 (f : Nat → Int32) : (mk F G).set 26 (.inl (.int, 10, .inl f)) = mk (upA F 26 f) G := rfl
theorem ga_26 (C : gC X M) {i : Int32} (hin : vp_in i 10) (hd : decode M.2.1 pc = .ok (.iaload, 1)) (k : GW X M (pc + 1) L (.int (F 26 i.toNatClampNeg) :: S) (mk F G) kc ks) : GW X M pc L (.int i :: .ref 27 :: S) (mk F G) kc ks := gw_iald C mk_26 hin hd k
theorem gs_26 (C : gC X M) {i x : Int32} (hin : vp_in i 10) (hd : decode M.2.1 pc = .ok (.iastore, 1)) (k : GW X M (pc + 1) L S (mk (up F 26 i.toNatClampNeg x) G) kc ks) : GW X M pc L (.int x :: .int i :: .ref 27 :: S) (mk F G) kc ks := gw_iast C mk_26 hin hd k
theorem mk_27 : (mk F G)[27]? = some (.inl (.int, 8, .inl (F 27))) := rfl
theorem ms_27 (f : Nat → Int32) : (mk F G).set 27 (.inl (.int, 8, .inl f)) = mk (upA F 27 f) G := rfl
theorem ga_27 (C : gC X M) {i : Int32} (hin : vp_in i 8) (hd : decode M.2.1 pc = .ok (.iaload, 1)) (k : GW X M (pc + 1) L (.int (F 27 i.toNatClampNeg) :: S) (mk F G) kc ks) : GW X M pc L (.int i :: .ref 28 :: S) (mk F G) kc ks := gw_iald C mk_27 hin hd k
theorem gs_27 (C : gC X M) {i x : Int32} (hin : vp_in i 8) (hd : decode M.2.1 pc = .ok (.iastore, 1)) (k : GW X M (pc + 1) L S (mk (up F 27 i.toNatClampNeg x) G) kc ks) : GW X M pc L (.int x :: .int i :: .ref 28 :: S) (mk F G) kc ks := gw_iast C mk_27 hin hd k
theorem mk_28 : (mk F G)[28]? = some (.inr (3, [.ref 2, .ref 8, .ref 30, .ref 31, .ref 32, .ref 33, .int (F 107 0)])) := rfl
theorem mk_29 : (mk F G)[29]? = some (.inl (.int, 8, .inl (F 29))) := rfl
theorem ms_29 (f : Nat → Int32) : (mk F G).set 29 (.inl (.int, 8, .inl f)) = mk (upA F 29 f) G := rfl
theorem ga_29 (C : gC X M) {i : Int32} (hin : vp_in i 8) (hd : decode M.2.1 pc = .ok (.iaload, 1)) (k : GW X M (pc + 1) L (.int (F 29 i.toNatClampNeg) :: S) (mk F G) kc ks) : GW X M pc L (.int i :: .ref 30 :: S) (mk F G) kc ks := gw_iald C mk_29 hin hd k
theorem gs_29 (C : gC X M) {i x : Int32} (hin : vp_in i 8) (hd : decode M.2.1 pc = .ok (.iastore, 1)) (k : GW X M (pc + 1) L S (mk (up F 29 i.toNatClampNeg x) G) kc ks) : GW X M pc L (.int x :: .int i :: .ref 30 :: S) (mk F G) kc ks := gw_iast C mk_29 hin hd k
theorem mk_30 : (mk F G)[30]? = some (.inl (.int, 8, .inl (F 30))) := rfl
theorem ms_30 (f : Nat → Int32) : (mk F G).set 30 (.inl (.int, 8, .inl f)) = mk (upA F 30 f) G := rfl
theorem ga_30 (C : gC X M) {i : Int32} (hin : vp_in i 8) (hd : decode M.2.1 pc = .ok (.iaload, 1)) (k : GW X M (pc + 1) L (.int (F 30 i.toNatClampNeg) :: S) (mk F G) kc ks) : GW X M pc L (.int i :: .ref 31 :: S) (mk F G) kc ks := gw_iald C mk_30 hin hd k
theorem gs_30 (C : gC X M) {i x : Int32} (hin : vp_in i 8) (hd : decode M.2.1 pc = .ok (.iastore, 1)) (k : GW X M (pc + 1) L S (mk (up F 30 i.toNatClampNeg x) G) kc ks) : GW X M pc L (.int x :: .int i :: .ref 31 :: S) (mk F G) kc ks := gw_iast C mk_30 hin hd k
theorem mk_31 : (mk F G)[31]? = some (.inl (.int, 8, .inl (F 31))) := rfl
theorem ms_31 (f : Nat → Int32) : (mk F G).set 31 (.inl (.int, 8, .inl f)) = mk (upA F 31 f) G := rfl
theorem ga_31 (C : gC X M) {i : Int32} (hin : vp_in i 8) (hd : decode M.2.1 pc = .ok (.iaload, 1)) (k : GW X M (pc + 1) L (.int (F 31 i.toNatClampNeg) :: S) (mk F G) kc ks) : GW X M pc L (.int i :: .ref 32 :: S) (mk F G) kc ks := gw_iald C mk_31 hin hd k
theorem gs_31 (C : gC X M) {i x : Int32} (hin : vp_in i 8) (hd : decode M.2.1 pc = .ok (.iastore, 1)) (k : GW X M (pc + 1) L S (mk (up F 31 i.toNatClampNeg x) G) kc ks) : GW X M pc L (.int x :: .int i :: .ref 32 :: S) (mk F G) kc ks := gw_iast C mk_31 hin hd k
theorem mk_32 : (mk F G)[32]? = some (.inl (.long, 576, .inr (.inl G))) := rfl
theorem ms_32 (g : Nat → Int64) : (mk F G).set 32 (.inl (.long, 576, .inr (.inl g))) = mk F g := rfl
theorem ga_32 (C : gC X M) {i : Int32} (hin : vp_in i 576) (hd : decode M.2.1 pc = .ok (.laload, 1)) (k : GW X M (pc + 1) L (.long (G i.toNatClampNeg) :: S) (mk F G) kc ks) : GW X M pc L (.int i :: .ref 33 :: S) (mk F G) kc ks := gw_lald C mk_32 hin hd k
theorem gs_32 (C : gC X M) {i : Int32} {x : Int64} (hin : vp_in i 576) (hd : decode M.2.1 pc = .ok (.lastore, 1)) (k : GW X M (pc + 1) L S (mk F (vp_updL G i.toNatClampNeg x)) kc ks) : GW X M pc L (.long x :: .int i :: .ref 33 :: S) (mk F G) kc ks := gw_last C mk_32 hin hd k
theorem mk_33 : (mk F G)[33]? = some (.inl (.object "SwingDesk$Sheet", 2, .inr (.inr (.inr (.inr gShs))))) := rfl
theorem mk_34 : (mk F G)[34]? = some (.inr (4, [.int (F 108 0), .ref 36])) := rfl
theorem mk_35 : (mk F G)[35]? = some (.inl (.byte, 30, .inl (F 35))) := rfl
theorem ms_35 (f : Nat → Int32) : (mk F G).set 35 (.inl (.byte, 30, .inl f)) = mk (upA F 35 f) G := rfl
theorem ga_35 (C : gC X M) {i : Int32} (hin : vp_in i 30) (hd : decode M.2.1 pc = .ok (.baload, 1)) (k : GW X M (pc + 1) L (.int (F 35 i.toNatClampNeg) :: S) (mk F G) kc ks) : GW X M pc L (.int i :: .ref 36 :: S) (mk F G) kc ks := gw_bald C mk_35 hin hd k
theorem gs_35 (C : gC X M) {i x : Int32} (hin : vp_in i 30) (hd : decode M.2.1 pc = .ok (.bastore, 1)) (k : GW X M (pc + 1) L S (mk (up F 35 i.toNatClampNeg (vp_nar .byte x)) G) kc ks) : GW X M pc L (.int x :: .int i :: .ref 36 :: S) (mk F G) kc ks := gw_bast C mk_35 hin hd k
theorem mk_36 : (mk F G)[36]? = some (.inr (4, [.int (F 109 0), .ref 38])) := rfl
theorem mk_37 : (mk F G)[37]? = some (.inl (.byte, 30, .inl (F 37))) := rfl
theorem ms_37 (f : Nat → Int32) : (mk F G).set 37 (.inl (.byte, 30, .inl f)) = mk (upA F 37 f) G := rfl
theorem ga_37 (C : gC X M) {i : Int32} (hin : vp_in i 30) (hd : decode M.2.1 pc = .ok (.baload, 1)) (k : GW X M (pc + 1) L (.int (F 37 i.toNatClampNeg) :: S) (mk F G) kc ks) : GW X M pc L (.int i :: .ref 38 :: S) (mk F G) kc ks := gw_bald C mk_37 hin hd k
theorem gs_37 (C : gC X M) {i x : Int32} (hin : vp_in i 30) (hd : decode M.2.1 pc = .ok (.bastore, 1)) (k : GW X M (pc + 1) L S (mk (up F 37 i.toNatClampNeg (vp_nar .byte x)) G) kc ks) : GW X M pc L (.int x :: .int i :: .ref 38 :: S) (mk F G) kc ks := gw_bast C mk_37 hin hd k
theorem mk_38 : (mk F G)[38]? = some (.inr (7, [.int (F 110 0), .ref 40, .ref 41, .ref 42, .ref 43, .ref 44, .int (F 111 0), .ref 45, .ref 46, .ref 47, .ref 48, .ref 49, .ref 50, .ref 51, .int (F 112 0), .int (F 113 0), .ref 52, .ref 53, .ref 54, .ref 55, .ref 56, .ref 57, .int (F 114 0), .int (F 115 0), .int (F 116 0), .ref 58, .ref 59, .ref 60])) := rfl
theorem mk_39 : (mk F G)[39]? = some (.inl (.int, 8, .inl (F 39))) := rfl
theorem ms_39 (f : Nat → Int32) : (mk F G).set 39 (.inl (.int, 8, .inl f)) = mk (upA F 39 f) G := rfl
theorem ga_39 (C : gC X M) {i : Int32} (hin : vp_in i 8) (hd : decode M.2.1 pc = .ok (.iaload, 1)) (k : GW X M (pc + 1) L (.int (F 39 i.toNatClampNeg) :: S) (mk F G) kc ks) : GW X M pc L (.int i :: .ref 40 :: S) (mk F G) kc ks := gw_iald C mk_39 hin hd k
theorem gs_39 (C : gC X M) {i x : Int32} (hin : vp_in i 8) (hd : decode M.2.1 pc = .ok (.iastore, 1)) (k : GW X M (pc + 1) L S (mk (up F 39 i.toNatClampNeg x) G) kc ks) : GW X M pc L (.int x :: .int i :: .ref 40 :: S) (mk F G) kc ks := gw_iast C mk_39 hin hd k
theorem mk_40 : (mk F G)[40]? = some (.inl (.int, 240, .inl (F 40))) := rfl
theorem ms_40 (f : Nat → Int32) : (mk F G).set 40 (.inl (.int, 240, .inl f)) = mk (upA F 40 f) G := rfl
theorem ga_40 (C : gC X M) {i : Int32} (hin : vp_in i 240) (hd : decode M.2.1 pc = .ok (.iaload, 1)) (k : GW X M (pc + 1) L (.int (F 40 i.toNatClampNeg) :: S) (mk F G) kc ks) : GW X M pc L (.int i :: .ref 41 :: S) (mk F G) kc ks := gw_iald C mk_40 hin hd k
theorem gs_40 (C : gC X M) {i x : Int32} (hin : vp_in i 240) (hd : decode M.2.1 pc = .ok (.iastore, 1)) (k : GW X M (pc + 1) L S (mk (up F 40 i.toNatClampNeg x) G) kc ks) : GW X M pc L (.int x :: .int i :: .ref 41 :: S) (mk F G) kc ks := gw_iast C mk_40 hin hd k
theorem mk_41 : (mk F G)[41]? = some (.inl (.int, 240, .inl (F 41))) := rfl
theorem ms_41 (f : Nat → Int32) : (mk F G).set 41 (.inl (.int, 240, .inl f)) = mk (upA F 41 f) G := rfl
theorem ga_41 (C : gC X M) {i : Int32} (hin : vp_in i 240) (hd : decode M.2.1 pc = .ok (.iaload, 1)) (k : GW X M (pc + 1) L (.int (F 41 i.toNatClampNeg) :: S) (mk F G) kc ks) : GW X M pc L (.int i :: .ref 42 :: S) (mk F G) kc ks := gw_iald C mk_41 hin hd k
theorem gs_41 (C : gC X M) {i x : Int32} (hin : vp_in i 240) (hd : decode M.2.1 pc = .ok (.iastore, 1)) (k : GW X M (pc + 1) L S (mk (up F 41 i.toNatClampNeg x) G) kc ks) : GW X M pc L (.int x :: .int i :: .ref 42 :: S) (mk F G) kc ks := gw_iast C mk_41 hin hd k
theorem mk_42 : (mk F G)[42]? = some (.inl (.int, 30, .inl (F 42))) := rfl
theorem ms_42 (f : Nat → Int32) : (mk F G).set 42 (.inl (.int, 30, .inl f)) = mk (upA F 42 f) G := rfl
theorem ga_42 (C : gC X M) {i : Int32} (hin : vp_in i 30) (hd : decode M.2.1 pc = .ok (.iaload, 1)) (k : GW X M (pc + 1) L (.int (F 42 i.toNatClampNeg) :: S) (mk F G) kc ks) : GW X M pc L (.int i :: .ref 43 :: S) (mk F G) kc ks := gw_iald C mk_42 hin hd k
theorem gs_42 (C : gC X M) {i x : Int32} (hin : vp_in i 30) (hd : decode M.2.1 pc = .ok (.iastore, 1)) (k : GW X M (pc + 1) L S (mk (up F 42 i.toNatClampNeg x) G) kc ks) : GW X M pc L (.int x :: .int i :: .ref 43 :: S) (mk F G) kc ks := gw_iast C mk_42 hin hd k
theorem mk_43 : (mk F G)[43]? = some (.inl (.int, 30, .inl (F 43))) := rfl
theorem ms_43 (f : Nat → Int32) : (mk F G).set 43 (.inl (.int, 30, .inl f)) = mk (upA F 43 f) G := rfl
theorem ga_43 (C : gC X M) {i : Int32} (hin : vp_in i 30) (hd : decode M.2.1 pc = .ok (.iaload, 1)) (k : GW X M (pc + 1) L (.int (F 43 i.toNatClampNeg) :: S) (mk F G) kc ks) : GW X M pc L (.int i :: .ref 44 :: S) (mk F G) kc ks := gw_iald C mk_43 hin hd k
theorem gs_43 (C : gC X M) {i x : Int32} (hin : vp_in i 30) (hd : decode M.2.1 pc = .ok (.iastore, 1)) (k : GW X M (pc + 1) L S (mk (up F 43 i.toNatClampNeg x) G) kc ks) : GW X M pc L (.int x :: .int i :: .ref 44 :: S) (mk F G) kc ks := gw_iast C mk_43 hin hd k
theorem mk_44 : (mk F G)[44]? = some (.inl (.int, 10, .inl (F 44))) := rfl
theorem ms_44 (f : Nat → Int32) : (mk F G).set 44 (.inl (.int, 10, .inl f)) = mk (upA F 44 f) G := rfl
theorem ga_44 (C : gC X M) {i : Int32} (hin : vp_in i 10) (hd : decode M.2.1 pc = .ok (.iaload, 1)) (k : GW X M (pc + 1) L (.int (F 44 i.toNatClampNeg) :: S) (mk F G) kc ks) : GW X M pc L (.int i :: .ref 45 :: S) (mk F G) kc ks := gw_iald C mk_44 hin hd k
theorem gs_44 (C : gC X M) {i x : Int32} (hin : vp_in i 10) (hd : decode M.2.1 pc = .ok (.iastore, 1)) (k : GW X M (pc + 1) L S (mk (up F 44 i.toNatClampNeg x) G) kc ks) : GW X M pc L (.int x :: .int i :: .ref 45 :: S) (mk F G) kc ks := gw_iast C mk_44 hin hd k
theorem mk_45 : (mk F G)[45]? = some (.inl (.int, 10, .inl (F 45))) := rfl
theorem ms_45 (f : Nat → Int32) : (mk F G).set 45 (.inl (.int, 10, .inl f)) = mk (upA F 45 f) G := rfl
theorem ga_45 (C : gC X M) {i : Int32} (hin : vp_in i 10) (hd : decode M.2.1 pc = .ok (.iaload, 1)) (k : GW X M (pc + 1) L (.int (F 45 i.toNatClampNeg) :: S) (mk F G) kc ks) : GW X M pc L (.int i :: .ref 46 :: S) (mk F G) kc ks := gw_iald C mk_45 hin hd k
theorem gs_45 (C : gC X M) {i x : Int32} (hin : vp_in i 10) (hd : decode M.2.1 pc = .ok (.iastore, 1)) (k : GW X M (pc + 1) L S (mk (up F 45 i.toNatClampNeg x) G) kc ks) : GW X M pc L (.int x :: .int i :: .ref 46 :: S) (mk F G) kc ks := gw_iast C mk_45 hin hd k
theorem mk_46 : (mk F G)[46]? = some (.inl (.int, 10, .inl (F 46))) := rfl
theorem ms_46 (f : Nat → Int32) : (mk F G).set 46 (.inl (.int, 10, .inl f)) = mk (upA F 46 f) G := rfl
theorem ga_46 (C : gC X M) {i : Int32} (hin : vp_in i 10) (hd : decode M.2.1 pc = .ok (.iaload, 1)) (k : GW X M (pc + 1) L (.int (F 46 i.toNatClampNeg) :: S) (mk F G) kc ks) : GW X M pc L (.int i :: .ref 47 :: S) (mk F G) kc ks := gw_iald C mk_46 hin hd k
theorem gs_46 (C : gC X M) {i x : Int32} (hin : vp_in i 10) (hd : decode M.2.1 pc = .ok (.iastore, 1)) (k : GW X M (pc + 1) L S (mk (up F 46 i.toNatClampNeg x) G) kc ks) : GW X M pc L (.int x :: .int i :: .ref 47 :: S) (mk F G) kc ks := gw_iast C mk_46 hin hd k
theorem mk_47 : (mk F G)[47]? = some (.inl (.int, 80, .inl (F 47))) := rfl
theorem ms_47 (f : Nat → Int32) : (mk F G).set 47 (.inl (.int, 80, .inl f)) = mk (upA F 47 f) G := rfl
theorem ga_47 (C : gC X M) {i : Int32} (hin : vp_in i 80) (hd : decode M.2.1 pc = .ok (.iaload, 1)) (k : GW X M (pc + 1) L (.int (F 47 i.toNatClampNeg) :: S) (mk F G) kc ks) : GW X M pc L (.int i :: .ref 48 :: S) (mk F G) kc ks := gw_iald C mk_47 hin hd k
theorem gs_47 (C : gC X M) {i x : Int32} (hin : vp_in i 80) (hd : decode M.2.1 pc = .ok (.iastore, 1)) (k : GW X M (pc + 1) L S (mk (up F 47 i.toNatClampNeg x) G) kc ks) : GW X M pc L (.int x :: .int i :: .ref 48 :: S) (mk F G) kc ks := gw_iast C mk_47 hin hd k
theorem mk_48 : (mk F G)[48]? = some (.inl (.int, 100, .inl (F 48))) := rfl
theorem ms_48 (f : Nat → Int32) : (mk F G).set 48 (.inl (.int, 100, .inl f)) = mk (upA F 48 f) G := rfl
theorem ga_48 (C : gC X M) {i : Int32} (hin : vp_in i 100) (hd : decode M.2.1 pc = .ok (.iaload, 1)) (k : GW X M (pc + 1) L (.int (F 48 i.toNatClampNeg) :: S) (mk F G) kc ks) : GW X M pc L (.int i :: .ref 49 :: S) (mk F G) kc ks := gw_iald C mk_48 hin hd k
theorem gs_48 (C : gC X M) {i x : Int32} (hin : vp_in i 100) (hd : decode M.2.1 pc = .ok (.iastore, 1)) (k : GW X M (pc + 1) L S (mk (up F 48 i.toNatClampNeg x) G) kc ks) : GW X M pc L (.int x :: .int i :: .ref 49 :: S) (mk F G) kc ks := gw_iast C mk_48 hin hd k
theorem mk_49 : (mk F G)[49]? = some (.inl (.int, 10, .inl (F 49))) := rfl
theorem ms_49 (f : Nat → Int32) : (mk F G).set 49 (.inl (.int, 10, .inl f)) = mk (upA F 49 f) G := rfl
theorem ga_49 (C : gC X M) {i : Int32} (hin : vp_in i 10) (hd : decode M.2.1 pc = .ok (.iaload, 1)) (k : GW X M (pc + 1) L (.int (F 49 i.toNatClampNeg) :: S) (mk F G) kc ks) : GW X M pc L (.int i :: .ref 50 :: S) (mk F G) kc ks := gw_iald C mk_49 hin hd k
theorem gs_49 (C : gC X M) {i x : Int32} (hin : vp_in i 10) (hd : decode M.2.1 pc = .ok (.iastore, 1)) (k : GW X M (pc + 1) L S (mk (up F 49 i.toNatClampNeg x) G) kc ks) : GW X M pc L (.int x :: .int i :: .ref 50 :: S) (mk F G) kc ks := gw_iast C mk_49 hin hd k
theorem mk_50 : (mk F G)[50]? = some (.inl (.int, 10, .inl (F 50))) := rfl
theorem ms_50 (f : Nat → Int32) : (mk F G).set 50 (.inl (.int, 10, .inl f)) = mk (upA F 50 f) G := rfl
theorem ga_50 (C : gC X M) {i : Int32} (hin : vp_in i 10) (hd : decode M.2.1 pc = .ok (.iaload, 1)) (k : GW X M (pc + 1) L (.int (F 50 i.toNatClampNeg) :: S) (mk F G) kc ks) : GW X M pc L (.int i :: .ref 51 :: S) (mk F G) kc ks := gw_iald C mk_50 hin hd k
theorem gs_50 (C : gC X M) {i x : Int32} (hin : vp_in i 10) (hd : decode M.2.1 pc = .ok (.iastore, 1)) (k : GW X M (pc + 1) L S (mk (up F 50 i.toNatClampNeg x) G) kc ks) : GW X M pc L (.int x :: .int i :: .ref 51 :: S) (mk F G) kc ks := gw_iast C mk_50 hin hd k
theorem mk_51 : (mk F G)[51]? = some (.inl (.int, 8, .inl (F 51))) := rfl
theorem ms_51 (f : Nat → Int32) : (mk F G).set 51 (.inl (.int, 8, .inl f)) = mk (upA F 51 f) G := rfl
theorem ga_51 (C : gC X M) {i : Int32} (hin : vp_in i 8) (hd : decode M.2.1 pc = .ok (.iaload, 1)) (k : GW X M (pc + 1) L (.int (F 51 i.toNatClampNeg) :: S) (mk F G) kc ks) : GW X M pc L (.int i :: .ref 52 :: S) (mk F G) kc ks := gw_iald C mk_51 hin hd k
theorem gs_51 (C : gC X M) {i x : Int32} (hin : vp_in i 8) (hd : decode M.2.1 pc = .ok (.iastore, 1)) (k : GW X M (pc + 1) L S (mk (up F 51 i.toNatClampNeg x) G) kc ks) : GW X M pc L (.int x :: .int i :: .ref 52 :: S) (mk F G) kc ks := gw_iast C mk_51 hin hd k
theorem mk_52 : (mk F G)[52]? = some (.inl (.int, 240, .inl (F 52))) := rfl
theorem ms_52 (f : Nat → Int32) : (mk F G).set 52 (.inl (.int, 240, .inl f)) = mk (upA F 52 f) G := rfl
theorem ga_52 (C : gC X M) {i : Int32} (hin : vp_in i 240) (hd : decode M.2.1 pc = .ok (.iaload, 1)) (k : GW X M (pc + 1) L (.int (F 52 i.toNatClampNeg) :: S) (mk F G) kc ks) : GW X M pc L (.int i :: .ref 53 :: S) (mk F G) kc ks := gw_iald C mk_52 hin hd k
theorem gs_52 (C : gC X M) {i x : Int32} (hin : vp_in i 240) (hd : decode M.2.1 pc = .ok (.iastore, 1)) (k : GW X M (pc + 1) L S (mk (up F 52 i.toNatClampNeg x) G) kc ks) : GW X M pc L (.int x :: .int i :: .ref 53 :: S) (mk F G) kc ks := gw_iast C mk_52 hin hd k
theorem mk_53 : (mk F G)[53]? = some (.inl (.int, 2, .inl (F 53))) := rfl
theorem ms_53 (f : Nat → Int32) : (mk F G).set 53 (.inl (.int, 2, .inl f)) = mk (upA F 53 f) G := rfl
theorem ga_53 (C : gC X M) {i : Int32} (hin : vp_in i 2) (hd : decode M.2.1 pc = .ok (.iaload, 1)) (k : GW X M (pc + 1) L (.int (F 53 i.toNatClampNeg) :: S) (mk F G) kc ks) : GW X M pc L (.int i :: .ref 54 :: S) (mk F G) kc ks := gw_iald C mk_53 hin hd k
theorem gs_53 (C : gC X M) {i x : Int32} (hin : vp_in i 2) (hd : decode M.2.1 pc = .ok (.iastore, 1)) (k : GW X M (pc + 1) L S (mk (up F 53 i.toNatClampNeg x) G) kc ks) : GW X M pc L (.int x :: .int i :: .ref 54 :: S) (mk F G) kc ks := gw_iast C mk_53 hin hd k
theorem mk_54 : (mk F G)[54]? = some (.inl (.int, 60, .inl (F 54))) := rfl
theorem ms_54 (f : Nat → Int32) : (mk F G).set 54 (.inl (.int, 60, .inl f)) = mk (upA F 54 f) G := rfl
theorem ga_54 (C : gC X M) {i : Int32} (hin : vp_in i 60) (hd : decode M.2.1 pc = .ok (.iaload, 1)) (k : GW X M (pc + 1) L (.int (F 54 i.toNatClampNeg) :: S) (mk F G) kc ks) : GW X M pc L (.int i :: .ref 55 :: S) (mk F G) kc ks := gw_iald C mk_54 hin hd k
theorem gs_54 (C : gC X M) {i x : Int32} (hin : vp_in i 60) (hd : decode M.2.1 pc = .ok (.iastore, 1)) (k : GW X M (pc + 1) L S (mk (up F 54 i.toNatClampNeg x) G) kc ks) : GW X M pc L (.int x :: .int i :: .ref 55 :: S) (mk F G) kc ks := gw_iast C mk_54 hin hd k
theorem mk_55 : (mk F G)[55]? = some (.inl (.int, 8, .inl (F 55))) := rfl
theorem ms_55 (f : Nat → Int32) : (mk F G).set 55 (.inl (.int, 8, .inl f)) = mk (upA F 55 f) G := rfl
theorem ga_55 (C : gC X M) {i : Int32} (hin : vp_in i 8) (hd : decode M.2.1 pc = .ok (.iaload, 1)) (k : GW X M (pc + 1) L (.int (F 55 i.toNatClampNeg) :: S) (mk F G) kc ks) : GW X M pc L (.int i :: .ref 56 :: S) (mk F G) kc ks := gw_iald C mk_55 hin hd k
theorem gs_55 (C : gC X M) {i x : Int32} (hin : vp_in i 8) (hd : decode M.2.1 pc = .ok (.iastore, 1)) (k : GW X M (pc + 1) L S (mk (up F 55 i.toNatClampNeg x) G) kc ks) : GW X M pc L (.int x :: .int i :: .ref 56 :: S) (mk F G) kc ks := gw_iast C mk_55 hin hd k
theorem mk_56 : (mk F G)[56]? = some (.inl (.int, 8, .inl (F 56))) := rfl
theorem ms_56 (f : Nat → Int32) : (mk F G).set 56 (.inl (.int, 8, .inl f)) = mk (upA F 56 f) G := rfl
theorem ga_56 (C : gC X M) {i : Int32} (hin : vp_in i 8) (hd : decode M.2.1 pc = .ok (.iaload, 1)) (k : GW X M (pc + 1) L (.int (F 56 i.toNatClampNeg) :: S) (mk F G) kc ks) : GW X M pc L (.int i :: .ref 57 :: S) (mk F G) kc ks := gw_iald C mk_56 hin hd k
theorem gs_56 (C : gC X M) {i x : Int32} (hin : vp_in i 8) (hd : decode M.2.1 pc = .ok (.iastore, 1)) (k : GW X M (pc + 1) L S (mk (up F 56 i.toNatClampNeg x) G) kc ks) : GW X M pc L (.int x :: .int i :: .ref 57 :: S) (mk F G) kc ks := gw_iast C mk_56 hin hd k
theorem mk_57 : (mk F G)[57]? = some (.inl (.int, 72171, .inl (F 57))) := rfl
theorem ms_57 (f : Nat → Int32) : (mk F G).set 57 (.inl (.int, 72171, .inl f)) = mk (upA F 57 f) G := rfl
theorem ga_57 (C : gC X M) {i : Int32} (hin : vp_in i 72171) (hd : decode M.2.1 pc = .ok (.iaload, 1)) (k : GW X M (pc + 1) L (.int (F 57 i.toNatClampNeg) :: S) (mk F G) kc ks) : GW X M pc L (.int i :: .ref 58 :: S) (mk F G) kc ks := gw_iald C mk_57 hin hd k
theorem gs_57 (C : gC X M) {i x : Int32} (hin : vp_in i 72171) (hd : decode M.2.1 pc = .ok (.iastore, 1)) (k : GW X M (pc + 1) L S (mk (up F 57 i.toNatClampNeg x) G) kc ks) : GW X M pc L (.int x :: .int i :: .ref 58 :: S) (mk F G) kc ks := gw_iast C mk_57 hin hd k
theorem mk_58 : (mk F G)[58]? = some (.inl (.int, 9, .inl (F 58))) := rfl
theorem ms_58 (f : Nat → Int32) : (mk F G).set 58 (.inl (.int, 9, .inl f)) = mk (upA F 58 f) G := rfl
theorem ga_58 (C : gC X M) {i : Int32} (hin : vp_in i 9) (hd : decode M.2.1 pc = .ok (.iaload, 1)) (k : GW X M (pc + 1) L (.int (F 58 i.toNatClampNeg) :: S) (mk F G) kc ks) : GW X M pc L (.int i :: .ref 59 :: S) (mk F G) kc ks := gw_iald C mk_58 hin hd k
theorem gs_58 (C : gC X M) {i x : Int32} (hin : vp_in i 9) (hd : decode M.2.1 pc = .ok (.iastore, 1)) (k : GW X M (pc + 1) L S (mk (up F 58 i.toNatClampNeg x) G) kc ks) : GW X M pc L (.int x :: .int i :: .ref 59 :: S) (mk F G) kc ks := gw_iast C mk_58 hin hd k
theorem mk_59 : (mk F G)[59]? = some (.inl (.int, 30, .inl (F 59))) := rfl
theorem ms_59 (f : Nat → Int32) : (mk F G).set 59 (.inl (.int, 30, .inl f)) = mk (upA F 59 f) G := rfl
theorem ga_59 (C : gC X M) {i : Int32} (hin : vp_in i 30) (hd : decode M.2.1 pc = .ok (.iaload, 1)) (k : GW X M (pc + 1) L (.int (F 59 i.toNatClampNeg) :: S) (mk F G) kc ks) : GW X M pc L (.int i :: .ref 60 :: S) (mk F G) kc ks := gw_iald C mk_59 hin hd k
theorem gs_59 (C : gC X M) {i x : Int32} (hin : vp_in i 30) (hd : decode M.2.1 pc = .ok (.iastore, 1)) (k : GW X M (pc + 1) L S (mk (up F 59 i.toNatClampNeg x) G) kc ks) : GW X M pc L (.int x :: .int i :: .ref 60 :: S) (mk F G) kc ks := gw_iast C mk_59 hin hd k
theorem gg_Show_9 (C : gC X M) (hM : M.1.cls = "SwingDesk$Show") (hd : decode M.2.1 pc = .ok (.getfield 9, 3)) (k : GW X M (pc + 3) L (.int (F 100 0) :: S) (mk F G) kc ks) : GW X M pc L (.ref 2 :: S) (mk F G) kc ks := gw_get C (v := .int (F 100 0)) mk_1 rfl gi_Show 0 (by decide) (by rw [hM]; exact wf_Show_9) rfl hd k
theorem gp_Show_9 (C : gC X M) (hM : M.1.cls = "SwingDesk$Show") {x : Int32} (hd : decode M.2.1 pc = .ok (.putfield 9, 3)) (k : GW X M (pc + 3) L S (mk (upS F 100 x) G) kc ks) : GW X M pc L (.int x :: .ref 2 :: S) (mk F G) kc ks := gw_put C (v := .int x) mk_1 rfl gi_Show gt_Show gty_Show gn_Show 0 (by decide) (by rw [hM]; exact wf_Show_9) rfl (fun _ _ h => by cases h; rfl) (fun _ _ h => by cases h; rfl) (Nat.le_of_ble_eq_true rfl) hd k
theorem gg_Show_15 (C : gC X M) (hM : M.1.cls = "SwingDesk$Show") (hd : decode M.2.1 pc = .ok (.getfield 15, 3)) (k : GW X M (pc + 3) L (.ref 3 :: S) (mk F G) kc ks) : GW X M pc L (.ref 2 :: S) (mk F G) kc ks := gw_get C (v := .ref 3) mk_1 rfl gi_Show 1 (by decide) (by rw [hM]; exact wf_Show_15) rfl hd k
theorem gg_Show_19 (C : gC X M) (hM : M.1.cls = "SwingDesk$Show") (hd : decode M.2.1 pc = .ok (.getfield 19, 3)) (k : GW X M (pc + 3) L (.ref 4 :: S) (mk F G) kc ks) : GW X M pc L (.ref 2 :: S) (mk F G) kc ks := gw_get C (v := .ref 4) mk_1 rfl gi_Show 2 (by decide) (by rw [hM]; exact wf_Show_19) rfl hd k
theorem gg_Show_22 (C : gC X M) (hM : M.1.cls = "SwingDesk$Show") (hd : decode M.2.1 pc = .ok (.getfield 22, 3)) (k : GW X M (pc + 3) L (.ref 5 :: S) (mk F G) kc ks) : GW X M pc L (.ref 2 :: S) (mk F G) kc ks := gw_get C (v := .ref 5) mk_1 rfl gi_Show 3 (by decide) (by rw [hM]; exact wf_Show_22) rfl hd k
theorem gg_Show_25 (C : gC X M) (hM : M.1.cls = "SwingDesk$Show") (hd : decode M.2.1 pc = .ok (.getfield 25, 3)) (k : GW X M (pc + 3) L (.ref 6 :: S) (mk F G) kc ks) : GW X M pc L (.ref 2 :: S) (mk F G) kc ks := gw_get C (v := .ref 6) mk_1 rfl gi_Show 4 (by decide) (by rw [hM]; exact wf_Show_25) rfl hd k
theorem gg_Show_28 (C : gC X M) (hM : M.1.cls = "SwingDesk$Show") (hd : decode M.2.1 pc = .ok (.getfield 28, 3)) (k : GW X M (pc + 3) L (.ref 7 :: S) (mk F G) kc ks) : GW X M pc L (.ref 2 :: S) (mk F G) kc ks := gw_get C (v := .ref 7) mk_1 rfl gi_Show 5 (by decide) (by rw [hM]; exact wf_Show_28) rfl hd k
theorem gg_Company_9 (C : gC X M) (hM : M.1.cls = "SwingDesk$Company") (hd : decode M.2.1 pc = .ok (.getfield 9, 3)) (k : GW X M (pc + 3) L (.int (F 101 0) :: S) (mk F G) kc ks) : GW X M pc L (.ref 8 :: S) (mk F G) kc ks := gw_get C (v := .int (F 101 0)) mk_7 rfl gi_Company 0 (by decide) (by rw [hM]; exact wf_Company_9) rfl hd k
theorem gp_Company_9 (C : gC X M) (hM : M.1.cls = "SwingDesk$Company") {x : Int32} (hd : decode M.2.1 pc = .ok (.putfield 9, 3)) (k : GW X M (pc + 3) L S (mk (upS F 101 x) G) kc ks) : GW X M pc L (.int x :: .ref 8 :: S) (mk F G) kc ks := gw_put C (v := .int x) mk_7 rfl gi_Company gt_Company gty_Company gn_Company 0 (by decide) (by rw [hM]; exact wf_Company_9) rfl (fun _ _ h => by cases h; rfl) (fun _ _ h => by cases h; rfl) (Nat.le_of_ble_eq_true rfl) hd k
theorem gg_Company_15 (C : gC X M) (hM : M.1.cls = "SwingDesk$Company") (hd : decode M.2.1 pc = .ok (.getfield 15, 3)) (k : GW X M (pc + 3) L (.int (F 102 0) :: S) (mk F G) kc ks) : GW X M pc L (.ref 8 :: S) (mk F G) kc ks := gw_get C (v := .int (F 102 0)) mk_7 rfl gi_Company 1 (by decide) (by rw [hM]; exact wf_Company_15) rfl hd k
theorem gp_Company_15 (C : gC X M) (hM : M.1.cls = "SwingDesk$Company") {x : Int32} (hd : decode M.2.1 pc = .ok (.putfield 15, 3)) (k : GW X M (pc + 3) L S (mk (upS F 102 x) G) kc ks) : GW X M pc L (.int x :: .ref 8 :: S) (mk F G) kc ks := gw_put C (v := .int x) mk_7 rfl gi_Company gt_Company gty_Company gn_Company 1 (by decide) (by rw [hM]; exact wf_Company_15) rfl (fun _ _ h => by cases h; rfl) (fun _ _ h => by cases h; rfl) (Nat.le_of_ble_eq_true rfl) hd k
theorem gg_Company_18 (C : gC X M) (hM : M.1.cls = "SwingDesk$Company") (hd : decode M.2.1 pc = .ok (.getfield 18, 3)) (k : GW X M (pc + 3) L (.ref 9 :: S) (mk F G) kc ks) : GW X M pc L (.ref 8 :: S) (mk F G) kc ks := gw_get C (v := .ref 9) mk_7 rfl gi_Company 2 (by decide) (by rw [hM]; exact wf_Company_18) rfl hd k
theorem gg_Company_22 (C : gC X M) (hM : M.1.cls = "SwingDesk$Company") (hd : decode M.2.1 pc = .ok (.getfield 22, 3)) (k : GW X M (pc + 3) L (.ref 10 :: S) (mk F G) kc ks) : GW X M pc L (.ref 8 :: S) (mk F G) kc ks := gw_get C (v := .ref 10) mk_7 rfl gi_Company 3 (by decide) (by rw [hM]; exact wf_Company_22) rfl hd k
theorem gg_Company_25 (C : gC X M) (hM : M.1.cls = "SwingDesk$Company") (hd : decode M.2.1 pc = .ok (.getfield 25, 3)) (k : GW X M (pc + 3) L (.ref 11 :: S) (mk F G) kc ks) : GW X M pc L (.ref 8 :: S) (mk F G) kc ks := gw_get C (v := .ref 11) mk_7 rfl gi_Company 4 (by decide) (by rw [hM]; exact wf_Company_25) rfl hd k
theorem gg_Company_28 (C : gC X M) (hM : M.1.cls = "SwingDesk$Company") (hd : decode M.2.1 pc = .ok (.getfield 28, 3)) (k : GW X M (pc + 3) L (.ref 12 :: S) (mk F G) kc ks) : GW X M pc L (.ref 8 :: S) (mk F G) kc ks := gw_get C (v := .ref 12) mk_7 rfl gi_Company 5 (by decide) (by rw [hM]; exact wf_Company_28) rfl hd k
theorem gg_Company_31 (C : gC X M) (hM : M.1.cls = "SwingDesk$Company") (hd : decode M.2.1 pc = .ok (.getfield 31, 3)) (k : GW X M (pc + 3) L (.ref 13 :: S) (mk F G) kc ks) : GW X M pc L (.ref 8 :: S) (mk F G) kc ks := gw_get C (v := .ref 13) mk_7 rfl gi_Company 6 (by decide) (by rw [hM]; exact wf_Company_31) rfl hd k
theorem gg_Company_34 (C : gC X M) (hM : M.1.cls = "SwingDesk$Company") (hd : decode M.2.1 pc = .ok (.getfield 34, 3)) (k : GW X M (pc + 3) L (.ref 14 :: S) (mk F G) kc ks) : GW X M pc L (.ref 8 :: S) (mk F G) kc ks := gw_get C (v := .ref 14) mk_7 rfl gi_Company 7 (by decide) (by rw [hM]; exact wf_Company_34) rfl hd k
theorem gg_Company_37 (C : gC X M) (hM : M.1.cls = "SwingDesk$Company") (hd : decode M.2.1 pc = .ok (.getfield 37, 3)) (k : GW X M (pc + 3) L (.ref 15 :: S) (mk F G) kc ks) : GW X M pc L (.ref 8 :: S) (mk F G) kc ks := gw_get C (v := .ref 15) mk_7 rfl gi_Company 8 (by decide) (by rw [hM]; exact wf_Company_37) rfl hd k
theorem gg_Night_9 (C : gC X M) (hM : M.1.cls = "SwingDesk$Night") (hd : decode M.2.1 pc = .ok (.getfield 9, 3)) (k : GW X M (pc + 3) L (.ref 2 :: S) (mk F G) kc ks) : GW X M pc L (.ref 16 :: S) (mk F G) kc ks := gw_get C (v := .ref 2) mk_15 rfl gi_Night 0 (by decide) (by rw [hM]; exact wf_Night_9) rfl hd k
theorem gg_Night_15 (C : gC X M) (hM : M.1.cls = "SwingDesk$Night") (hd : decode M.2.1 pc = .ok (.getfield 15, 3)) (k : GW X M (pc + 3) L (.ref 8 :: S) (mk F G) kc ks) : GW X M pc L (.ref 16 :: S) (mk F G) kc ks := gw_get C (v := .ref 8) mk_15 rfl gi_Night 1 (by decide) (by rw [hM]; exact wf_Night_15) rfl hd k
theorem gg_Night_19 (C : gC X M) (hM : M.1.cls = "SwingDesk$Night") (hd : decode M.2.1 pc = .ok (.getfield 19, 3)) (k : GW X M (pc + 3) L (.int (F 103 0) :: S) (mk F G) kc ks) : GW X M pc L (.ref 16 :: S) (mk F G) kc ks := gw_get C (v := .int (F 103 0)) mk_15 rfl gi_Night 2 (by decide) (by rw [hM]; exact wf_Night_19) rfl hd k
theorem gp_Night_19 (C : gC X M) (hM : M.1.cls = "SwingDesk$Night") {x : Int32} (hb : narrow .boolean (.int x) = .int x ∧ fits .boolean (.int x) = true) (hd : decode M.2.1 pc = .ok (.putfield 19, 3)) (k : GW X M (pc + 3) L S (mk (upS F 103 x) G) kc ks) : GW X M pc L (.int x :: .ref 16 :: S) (mk F G) kc ks := gw_put C (v := .int x) mk_15 rfl gi_Night gt_Night gty_Night gn_Night 2 (by decide) (by rw [hM]; exact wf_Night_19) rfl (fun _ _ h => by cases h; exact hb.1) (fun _ _ h => by cases h; exact hb.2) (Nat.le_of_ble_eq_true rfl) hd k
theorem gg_Night_23 (C : gC X M) (hM : M.1.cls = "SwingDesk$Night") (hd : decode M.2.1 pc = .ok (.getfield 23, 3)) (k : GW X M (pc + 3) L (.ref 17 :: S) (mk F G) kc ks) : GW X M pc L (.ref 16 :: S) (mk F G) kc ks := gw_get C (v := .ref 17) mk_15 rfl gi_Night 3 (by decide) (by rw [hM]; exact wf_Night_23) rfl hd k
theorem gg_Night_27 (C : gC X M) (hM : M.1.cls = "SwingDesk$Night") (hd : decode M.2.1 pc = .ok (.getfield 27, 3)) (k : GW X M (pc + 3) L (.ref 18 :: S) (mk F G) kc ks) : GW X M pc L (.ref 16 :: S) (mk F G) kc ks := gw_get C (v := .ref 18) mk_15 rfl gi_Night 4 (by decide) (by rw [hM]; exact wf_Night_27) rfl hd k
theorem gg_CastSearch_9 (C : gC X M) (hM : M.1.cls = "SwingDesk$CastSearch") (hd : decode M.2.1 pc = .ok (.getfield 9, 3)) (k : GW X M (pc + 3) L (.ref 2 :: S) (mk F G) kc ks) : GW X M pc L (.ref 19 :: S) (mk F G) kc ks := gw_get C (v := .ref 2) mk_18 rfl gi_CastSearch 0 (by decide) (by rw [hM]; exact wf_CastSearch_9) rfl hd k
theorem gg_CastSearch_15 (C : gC X M) (hM : M.1.cls = "SwingDesk$CastSearch") (hd : decode M.2.1 pc = .ok (.getfield 15, 3)) (k : GW X M (pc + 3) L (.ref 8 :: S) (mk F G) kc ks) : GW X M pc L (.ref 19 :: S) (mk F G) kc ks := gw_get C (v := .ref 8) mk_18 rfl gi_CastSearch 1 (by decide) (by rw [hM]; exact wf_CastSearch_15) rfl hd k
theorem gg_CastSearch_19 (C : gC X M) (hM : M.1.cls = "SwingDesk$CastSearch") (hd : decode M.2.1 pc = .ok (.getfield 19, 3)) (k : GW X M (pc + 3) L (.ref 20 :: S) (mk F G) kc ks) : GW X M pc L (.ref 19 :: S) (mk F G) kc ks := gw_get C (v := .ref 20) mk_18 rfl gi_CastSearch 2 (by decide) (by rw [hM]; exact wf_CastSearch_19) rfl hd k
theorem gg_CastSearch_23 (C : gC X M) (hM : M.1.cls = "SwingDesk$CastSearch") (hd : decode M.2.1 pc = .ok (.getfield 23, 3)) (k : GW X M (pc + 3) L (.ref 21 :: S) (mk F G) kc ks) : GW X M pc L (.ref 19 :: S) (mk F G) kc ks := gw_get C (v := .ref 21) mk_18 rfl gi_CastSearch 3 (by decide) (by rw [hM]; exact wf_CastSearch_23) rfl hd k
theorem gg_CastSearch_26 (C : gC X M) (hM : M.1.cls = "SwingDesk$CastSearch") (hd : decode M.2.1 pc = .ok (.getfield 26, 3)) (k : GW X M (pc + 3) L (.ref 22 :: S) (mk F G) kc ks) : GW X M pc L (.ref 19 :: S) (mk F G) kc ks := gw_get C (v := .ref 22) mk_18 rfl gi_CastSearch 4 (by decide) (by rw [hM]; exact wf_CastSearch_26) rfl hd k
theorem gg_CastSearch_29 (C : gC X M) (hM : M.1.cls = "SwingDesk$CastSearch") (hd : decode M.2.1 pc = .ok (.getfield 29, 3)) (k : GW X M (pc + 3) L (.ref 23 :: S) (mk F G) kc ks) : GW X M pc L (.ref 19 :: S) (mk F G) kc ks := gw_get C (v := .ref 23) mk_18 rfl gi_CastSearch 5 (by decide) (by rw [hM]; exact wf_CastSearch_29) rfl hd k
theorem gg_CastSearch_32 (C : gC X M) (hM : M.1.cls = "SwingDesk$CastSearch") (hd : decode M.2.1 pc = .ok (.getfield 32, 3)) (k : GW X M (pc + 3) L (.ref 24 :: S) (mk F G) kc ks) : GW X M pc L (.ref 19 :: S) (mk F G) kc ks := gw_get C (v := .ref 24) mk_18 rfl gi_CastSearch 6 (by decide) (by rw [hM]; exact wf_CastSearch_32) rfl hd k
theorem gg_CastSearch_35 (C : gC X M) (hM : M.1.cls = "SwingDesk$CastSearch") (hd : decode M.2.1 pc = .ok (.getfield 35, 3)) (k : GW X M (pc + 3) L (.ref 25 :: S) (mk F G) kc ks) : GW X M pc L (.ref 19 :: S) (mk F G) kc ks := gw_get C (v := .ref 25) mk_18 rfl gi_CastSearch 7 (by decide) (by rw [hM]; exact wf_CastSearch_35) rfl hd k
theorem gg_CastSearch_38 (C : gC X M) (hM : M.1.cls = "SwingDesk$CastSearch") (hd : decode M.2.1 pc = .ok (.getfield 38, 3)) (k : GW X M (pc + 3) L (.ref 26 :: S) (mk F G) kc ks) : GW X M pc L (.ref 19 :: S) (mk F G) kc ks := gw_get C (v := .ref 26) mk_18 rfl gi_CastSearch 8 (by decide) (by rw [hM]; exact wf_CastSearch_38) rfl hd k
theorem gg_CastSearch_41 (C : gC X M) (hM : M.1.cls = "SwingDesk$CastSearch") (hd : decode M.2.1 pc = .ok (.getfield 41, 3)) (k : GW X M (pc + 3) L (.ref 27 :: S) (mk F G) kc ks) : GW X M pc L (.ref 19 :: S) (mk F G) kc ks := gw_get C (v := .ref 27) mk_18 rfl gi_CastSearch 9 (by decide) (by rw [hM]; exact wf_CastSearch_41) rfl hd k
theorem gg_CastSearch_44 (C : gC X M) (hM : M.1.cls = "SwingDesk$CastSearch") (hd : decode M.2.1 pc = .ok (.getfield 44, 3)) (k : GW X M (pc + 3) L (.ref 28 :: S) (mk F G) kc ks) : GW X M pc L (.ref 19 :: S) (mk F G) kc ks := gw_get C (v := .ref 28) mk_18 rfl gi_CastSearch 10 (by decide) (by rw [hM]; exact wf_CastSearch_44) rfl hd k
theorem gg_CastSearch_74 (C : gC X M) (hM : M.1.cls = "SwingDesk$CastSearch") (hd : decode M.2.1 pc = .ok (.getfield 74, 3)) (k : GW X M (pc + 3) L (.int (F 104 0) :: S) (mk F G) kc ks) : GW X M pc L (.ref 19 :: S) (mk F G) kc ks := gw_get C (v := .int (F 104 0)) mk_18 rfl gi_CastSearch 11 (by decide) (by rw [hM]; exact wf_CastSearch_74) rfl hd k
theorem gp_CastSearch_74 (C : gC X M) (hM : M.1.cls = "SwingDesk$CastSearch") {x : Int32} (hd : decode M.2.1 pc = .ok (.putfield 74, 3)) (k : GW X M (pc + 3) L S (mk (upS F 104 x) G) kc ks) : GW X M pc L (.int x :: .ref 19 :: S) (mk F G) kc ks := gw_put C (v := .int x) mk_18 rfl gi_CastSearch gt_CastSearch gty_CastSearch gn_CastSearch 11 (by decide) (by rw [hM]; exact wf_CastSearch_74) rfl (fun _ _ h => by cases h; rfl) (fun _ _ h => by cases h; rfl) (Nat.le_of_ble_eq_true rfl) hd k
theorem gg_CastSearch_78 (C : gC X M) (hM : M.1.cls = "SwingDesk$CastSearch") (hd : decode M.2.1 pc = .ok (.getfield 78, 3)) (k : GW X M (pc + 3) L (.int (F 105 0) :: S) (mk F G) kc ks) : GW X M pc L (.ref 19 :: S) (mk F G) kc ks := gw_get C (v := .int (F 105 0)) mk_18 rfl gi_CastSearch 12 (by decide) (by rw [hM]; exact wf_CastSearch_78) rfl hd k
theorem gp_CastSearch_78 (C : gC X M) (hM : M.1.cls = "SwingDesk$CastSearch") {x : Int32} (hd : decode M.2.1 pc = .ok (.putfield 78, 3)) (k : GW X M (pc + 3) L S (mk (upS F 105 x) G) kc ks) : GW X M pc L (.int x :: .ref 19 :: S) (mk F G) kc ks := gw_put C (v := .int x) mk_18 rfl gi_CastSearch gt_CastSearch gty_CastSearch gn_CastSearch 12 (by decide) (by rw [hM]; exact wf_CastSearch_78) rfl (fun _ _ h => by cases h; rfl) (fun _ _ h => by cases h; rfl) (Nat.le_of_ble_eq_true rfl) hd k
theorem gg_CastSearch_81 (C : gC X M) (hM : M.1.cls = "SwingDesk$CastSearch") (hd : decode M.2.1 pc = .ok (.getfield 81, 3)) (k : GW X M (pc + 3) L (.int (F 106 0) :: S) (mk F G) kc ks) : GW X M pc L (.ref 19 :: S) (mk F G) kc ks := gw_get C (v := .int (F 106 0)) mk_18 rfl gi_CastSearch 13 (by decide) (by rw [hM]; exact wf_CastSearch_81) rfl hd k
theorem gp_CastSearch_81 (C : gC X M) (hM : M.1.cls = "SwingDesk$CastSearch") {x : Int32} (hb : narrow .boolean (.int x) = .int x ∧ fits .boolean (.int x) = true) (hd : decode M.2.1 pc = .ok (.putfield 81, 3)) (k : GW X M (pc + 3) L S (mk (upS F 106 x) G) kc ks) : GW X M pc L (.int x :: .ref 19 :: S) (mk F G) kc ks := gw_put C (v := .int x) mk_18 rfl gi_CastSearch gt_CastSearch gty_CastSearch gn_CastSearch 13 (by decide) (by rw [hM]; exact wf_CastSearch_81) rfl (fun _ _ h => by cases h; exact hb.1) (fun _ _ h => by cases h; exact hb.2) (Nat.le_of_ble_eq_true rfl) hd k
theorem gg_PutIns_11 (C : gC X M) (hM : M.1.cls = "SwingDesk$PutIns") (hd : decode M.2.1 pc = .ok (.getfield 11, 3)) (k : GW X M (pc + 3) L (.ref 2 :: S) (mk F G) kc ks) : GW X M pc L (.ref 29 :: S) (mk F G) kc ks := gw_get C (v := .ref 2) mk_28 rfl gi_PutIns 0 (by decide) (by rw [hM]; exact wf_PutIns_11) rfl hd k
theorem gg_PutIns_15 (C : gC X M) (hM : M.1.cls = "SwingDesk$PutIns") (hd : decode M.2.1 pc = .ok (.getfield 15, 3)) (k : GW X M (pc + 3) L (.ref 8 :: S) (mk F G) kc ks) : GW X M pc L (.ref 29 :: S) (mk F G) kc ks := gw_get C (v := .ref 8) mk_28 rfl gi_PutIns 1 (by decide) (by rw [hM]; exact wf_PutIns_15) rfl hd k
theorem gg_PutIns_19 (C : gC X M) (hM : M.1.cls = "SwingDesk$PutIns") (hd : decode M.2.1 pc = .ok (.getfield 19, 3)) (k : GW X M (pc + 3) L (.ref 30 :: S) (mk F G) kc ks) : GW X M pc L (.ref 29 :: S) (mk F G) kc ks := gw_get C (v := .ref 30) mk_28 rfl gi_PutIns 2 (by decide) (by rw [hM]; exact wf_PutIns_19) rfl hd k
theorem gg_PutIns_23 (C : gC X M) (hM : M.1.cls = "SwingDesk$PutIns") (hd : decode M.2.1 pc = .ok (.getfield 23, 3)) (k : GW X M (pc + 3) L (.ref 31 :: S) (mk F G) kc ks) : GW X M pc L (.ref 29 :: S) (mk F G) kc ks := gw_get C (v := .ref 31) mk_28 rfl gi_PutIns 3 (by decide) (by rw [hM]; exact wf_PutIns_23) rfl hd k
theorem gg_PutIns_26 (C : gC X M) (hM : M.1.cls = "SwingDesk$PutIns") (hd : decode M.2.1 pc = .ok (.getfield 26, 3)) (k : GW X M (pc + 3) L (.ref 32 :: S) (mk F G) kc ks) : GW X M pc L (.ref 29 :: S) (mk F G) kc ks := gw_get C (v := .ref 32) mk_28 rfl gi_PutIns 4 (by decide) (by rw [hM]; exact wf_PutIns_26) rfl hd k
theorem gg_PutIns_29 (C : gC X M) (hM : M.1.cls = "SwingDesk$PutIns") (hd : decode M.2.1 pc = .ok (.getfield 29, 3)) (k : GW X M (pc + 3) L (.ref 33 :: S) (mk F G) kc ks) : GW X M pc L (.ref 29 :: S) (mk F G) kc ks := gw_get C (v := .ref 33) mk_28 rfl gi_PutIns 5 (by decide) (by rw [hM]; exact wf_PutIns_29) rfl hd k
theorem gg_PutIns_33 (C : gC X M) (hM : M.1.cls = "SwingDesk$PutIns") (hd : decode M.2.1 pc = .ok (.getfield 33, 3)) (k : GW X M (pc + 3) L (.int (F 107 0) :: S) (mk F G) kc ks) : GW X M pc L (.ref 29 :: S) (mk F G) kc ks := gw_get C (v := .int (F 107 0)) mk_28 rfl gi_PutIns 6 (by decide) (by rw [hM]; exact wf_PutIns_33) rfl hd k
theorem gp_PutIns_33 (C : gC X M) (hM : M.1.cls = "SwingDesk$PutIns") {x : Int32} (hd : decode M.2.1 pc = .ok (.putfield 33, 3)) (k : GW X M (pc + 3) L S (mk (upS F 107 x) G) kc ks) : GW X M pc L (.int x :: .ref 29 :: S) (mk F G) kc ks := gw_put C (v := .int x) mk_28 rfl gi_PutIns gt_PutIns gty_PutIns gn_PutIns 6 (by decide) (by rw [hM]; exact wf_PutIns_33) rfl (fun _ _ h => by cases h; rfl) (fun _ _ h => by cases h; rfl) (Nat.le_of_ble_eq_true rfl) hd k
theorem gg_Sheet_11_0 (C : gC X M) (hM : M.1.cls = "SwingDesk$Sheet") (hd : decode M.2.1 pc = .ok (.getfield 11, 3)) (k : GW X M (pc + 3) L (.int (F 108 0) :: S) (mk F G) kc ks) : GW X M pc L (.ref 35 :: S) (mk F G) kc ks := gw_get C (v := .int (F 108 0)) mk_34 rfl gi_Sheet 0 (by decide) (by rw [hM]; exact wf_Sheet_11) rfl hd k
theorem gp_Sheet_11_0 (C : gC X M) (hM : M.1.cls = "SwingDesk$Sheet") {x : Int32} (hd : decode M.2.1 pc = .ok (.putfield 11, 3)) (k : GW X M (pc + 3) L S (mk (upS F 108 x) G) kc ks) : GW X M pc L (.int x :: .ref 35 :: S) (mk F G) kc ks := gw_put C (v := .int x) mk_34 rfl gi_Sheet gt_Sheet gty_Sheet gn_Sheet 0 (by decide) (by rw [hM]; exact wf_Sheet_11) rfl (fun _ _ h => by cases h; rfl) (fun _ _ h => by cases h; rfl) (Nat.le_of_ble_eq_true rfl) hd k
theorem gg_Sheet_11_1 (C : gC X M) (hM : M.1.cls = "SwingDesk$Sheet") (hd : decode M.2.1 pc = .ok (.getfield 11, 3)) (k : GW X M (pc + 3) L (.int (F 109 0) :: S) (mk F G) kc ks) : GW X M pc L (.ref 37 :: S) (mk F G) kc ks := gw_get C (v := .int (F 109 0)) mk_36 rfl gi_Sheet 0 (by decide) (by rw [hM]; exact wf_Sheet_11) rfl hd k
theorem gp_Sheet_11_1 (C : gC X M) (hM : M.1.cls = "SwingDesk$Sheet") {x : Int32} (hd : decode M.2.1 pc = .ok (.putfield 11, 3)) (k : GW X M (pc + 3) L S (mk (upS F 109 x) G) kc ks) : GW X M pc L (.int x :: .ref 37 :: S) (mk F G) kc ks := gw_put C (v := .int x) mk_36 rfl gi_Sheet gt_Sheet gty_Sheet gn_Sheet 0 (by decide) (by rw [hM]; exact wf_Sheet_11) rfl (fun _ _ h => by cases h; rfl) (fun _ _ h => by cases h; rfl) (Nat.le_of_ble_eq_true rfl) hd k
theorem gg_Sheet_15_0 (C : gC X M) (hM : M.1.cls = "SwingDesk$Sheet") (hd : decode M.2.1 pc = .ok (.getfield 15, 3)) (k : GW X M (pc + 3) L (.ref 36 :: S) (mk F G) kc ks) : GW X M pc L (.ref 35 :: S) (mk F G) kc ks := gw_get C (v := .ref 36) mk_34 rfl gi_Sheet 1 (by decide) (by rw [hM]; exact wf_Sheet_15) rfl hd k
theorem gg_Sheet_15_1 (C : gC X M) (hM : M.1.cls = "SwingDesk$Sheet") (hd : decode M.2.1 pc = .ok (.getfield 15, 3)) (k : GW X M (pc + 3) L (.ref 38 :: S) (mk F G) kc ks) : GW X M pc L (.ref 37 :: S) (mk F G) kc ks := gw_get C (v := .ref 38) mk_36 rfl gi_Sheet 1 (by decide) (by rw [hM]; exact wf_Sheet_15) rfl hd k
theorem gg_Desk_10 (C : gC X M) (hM : M.1.cls = "SwingDesk") (hd : decode M.2.1 pc = .ok (.getfield 10, 3)) (k : GW X M (pc + 3) L (.ref 2 :: S) (mk F G) kc ks) : GW X M pc L (.ref 1 :: S) (mk F G) kc ks := gw_get C (v := .ref 2) mk_0 rfl gi_SwingDesk 0 (by decide) (by rw [hM]; exact wf_Desk_10) rfl hd k
theorem gg_Desk_19 (C : gC X M) (hM : M.1.cls = "SwingDesk") (hd : decode M.2.1 pc = .ok (.getfield 19, 3)) (k : GW X M (pc + 3) L (.ref 8 :: S) (mk F G) kc ks) : GW X M pc L (.ref 1 :: S) (mk F G) kc ks := gw_get C (v := .ref 8) mk_0 rfl gi_SwingDesk 1 (by decide) (by rw [hM]; exact wf_Desk_19) rfl hd k
theorem gg_Desk_28 (C : gC X M) (hM : M.1.cls = "SwingDesk") (hd : decode M.2.1 pc = .ok (.getfield 28, 3)) (k : GW X M (pc + 3) L (.ref 16 :: S) (mk F G) kc ks) : GW X M pc L (.ref 1 :: S) (mk F G) kc ks := gw_get C (v := .ref 16) mk_0 rfl gi_SwingDesk 2 (by decide) (by rw [hM]; exact wf_Desk_28) rfl hd k
theorem gg_Desk_35 (C : gC X M) (hM : M.1.cls = "SwingDesk") (hd : decode M.2.1 pc = .ok (.getfield 35, 3)) (k : GW X M (pc + 3) L (.ref 19 :: S) (mk F G) kc ks) : GW X M pc L (.ref 1 :: S) (mk F G) kc ks := gw_get C (v := .ref 19) mk_0 rfl gi_SwingDesk 3 (by decide) (by rw [hM]; exact wf_Desk_35) rfl hd k
theorem gg_Desk_42 (C : gC X M) (hM : M.1.cls = "SwingDesk") (hd : decode M.2.1 pc = .ok (.getfield 42, 3)) (k : GW X M (pc + 3) L (.ref 29 :: S) (mk F G) kc ks) : GW X M pc L (.ref 1 :: S) (mk F G) kc ks := gw_get C (v := .ref 29) mk_0 rfl gi_SwingDesk 4 (by decide) (by rw [hM]; exact wf_Desk_42) rfl hd k
theorem gg_Desk_48 (C : gC X M) (hM : M.1.cls = "SwingDesk") (hd : decode M.2.1 pc = .ok (.getfield 48, 3)) (k : GW X M (pc + 3) L (.ref 34 :: S) (mk F G) kc ks) : GW X M pc L (.ref 1 :: S) (mk F G) kc ks := gw_get C (v := .ref 34) mk_0 rfl gi_SwingDesk 5 (by decide) (by rw [hM]; exact wf_Desk_48) rfl hd k
theorem gg_Model_74 (C : gC X M) (hM : M.1.cls = "SwingDeskModel") (hd : decode M.2.1 pc = .ok (.getfield 74, 3)) (k : GW X M (pc + 3) L (.int (F 110 0) :: S) (mk F G) kc ks) : GW X M pc L (.ref 39 :: S) (mk F G) kc ks := gw_get C (v := .int (F 110 0)) mk_38 rfl gi_SwingDeskModel 0 (by decide) (by rw [hM]; exact wf_Model_74) rfl hd k
theorem gp_Model_74 (C : gC X M) (hM : M.1.cls = "SwingDeskModel") {x : Int32} (hd : decode M.2.1 pc = .ok (.putfield 74, 3)) (k : GW X M (pc + 3) L S (mk (upS F 110 x) G) kc ks) : GW X M pc L (.int x :: .ref 39 :: S) (mk F G) kc ks := gw_put C (v := .int x) mk_38 rfl gi_SwingDeskModel gt_SwingDeskModel gty_SwingDeskModel gn_SwingDeskModel 0 (by decide) (by rw [hM]; exact wf_Model_74) rfl (fun _ _ h => by cases h; rfl) (fun _ _ h => by cases h; rfl) (Nat.le_of_ble_eq_true rfl) hd k
theorem gg_Model_7 (C : gC X M) (hM : M.1.cls = "SwingDeskModel") (hd : decode M.2.1 pc = .ok (.getfield 7, 3)) (k : GW X M (pc + 3) L (.ref 40 :: S) (mk F G) kc ks) : GW X M pc L (.ref 39 :: S) (mk F G) kc ks := gw_get C (v := .ref 40) mk_38 rfl gi_SwingDeskModel 1 (by decide) (by rw [hM]; exact wf_Model_7) rfl hd k
theorem gg_Model_13 (C : gC X M) (hM : M.1.cls = "SwingDeskModel") (hd : decode M.2.1 pc = .ok (.getfield 13, 3)) (k : GW X M (pc + 3) L (.ref 41 :: S) (mk F G) kc ks) : GW X M pc L (.ref 39 :: S) (mk F G) kc ks := gw_get C (v := .ref 41) mk_38 rfl gi_SwingDeskModel 2 (by decide) (by rw [hM]; exact wf_Model_13) rfl hd k
theorem gg_Model_16 (C : gC X M) (hM : M.1.cls = "SwingDeskModel") (hd : decode M.2.1 pc = .ok (.getfield 16, 3)) (k : GW X M (pc + 3) L (.ref 42 :: S) (mk F G) kc ks) : GW X M pc L (.ref 39 :: S) (mk F G) kc ks := gw_get C (v := .ref 42) mk_38 rfl gi_SwingDeskModel 3 (by decide) (by rw [hM]; exact wf_Model_16) rfl hd k
theorem gg_Model_19 (C : gC X M) (hM : M.1.cls = "SwingDeskModel") (hd : decode M.2.1 pc = .ok (.getfield 19, 3)) (k : GW X M (pc + 3) L (.ref 43 :: S) (mk F G) kc ks) : GW X M pc L (.ref 39 :: S) (mk F G) kc ks := gw_get C (v := .ref 43) mk_38 rfl gi_SwingDeskModel 4 (by decide) (by rw [hM]; exact wf_Model_19) rfl hd k
theorem gg_Model_22 (C : gC X M) (hM : M.1.cls = "SwingDeskModel") (hd : decode M.2.1 pc = .ok (.getfield 22, 3)) (k : GW X M (pc + 3) L (.ref 44 :: S) (mk F G) kc ks) : GW X M pc L (.ref 39 :: S) (mk F G) kc ks := gw_get C (v := .ref 44) mk_38 rfl gi_SwingDeskModel 5 (by decide) (by rw [hM]; exact wf_Model_22) rfl hd k
theorem gg_Model_82 (C : gC X M) (hM : M.1.cls = "SwingDeskModel") (hd : decode M.2.1 pc = .ok (.getfield 82, 3)) (k : GW X M (pc + 3) L (.int (F 111 0) :: S) (mk F G) kc ks) : GW X M pc L (.ref 39 :: S) (mk F G) kc ks := gw_get C (v := .int (F 111 0)) mk_38 rfl gi_SwingDeskModel 6 (by decide) (by rw [hM]; exact wf_Model_82) rfl hd k
theorem gp_Model_82 (C : gC X M) (hM : M.1.cls = "SwingDeskModel") {x : Int32} (hd : decode M.2.1 pc = .ok (.putfield 82, 3)) (k : GW X M (pc + 3) L S (mk (upS F 111 x) G) kc ks) : GW X M pc L (.int x :: .ref 39 :: S) (mk F G) kc ks := gw_put C (v := .int x) mk_38 rfl gi_SwingDeskModel gt_SwingDeskModel gty_SwingDeskModel gn_SwingDeskModel 6 (by decide) (by rw [hM]; exact wf_Model_82) rfl (fun _ _ h => by cases h; rfl) (fun _ _ h => by cases h; rfl) (Nat.le_of_ble_eq_true rfl) hd k
theorem gg_Model_25 (C : gC X M) (hM : M.1.cls = "SwingDeskModel") (hd : decode M.2.1 pc = .ok (.getfield 25, 3)) (k : GW X M (pc + 3) L (.ref 45 :: S) (mk F G) kc ks) : GW X M pc L (.ref 39 :: S) (mk F G) kc ks := gw_get C (v := .ref 45) mk_38 rfl gi_SwingDeskModel 7 (by decide) (by rw [hM]; exact wf_Model_25) rfl hd k
theorem gg_Model_28 (C : gC X M) (hM : M.1.cls = "SwingDeskModel") (hd : decode M.2.1 pc = .ok (.getfield 28, 3)) (k : GW X M (pc + 3) L (.ref 46 :: S) (mk F G) kc ks) : GW X M pc L (.ref 39 :: S) (mk F G) kc ks := gw_get C (v := .ref 46) mk_38 rfl gi_SwingDeskModel 8 (by decide) (by rw [hM]; exact wf_Model_28) rfl hd k
theorem gg_Model_31 (C : gC X M) (hM : M.1.cls = "SwingDeskModel") (hd : decode M.2.1 pc = .ok (.getfield 31, 3)) (k : GW X M (pc + 3) L (.ref 47 :: S) (mk F G) kc ks) : GW X M pc L (.ref 39 :: S) (mk F G) kc ks := gw_get C (v := .ref 47) mk_38 rfl gi_SwingDeskModel 9 (by decide) (by rw [hM]; exact wf_Model_31) rfl hd k
theorem gg_Model_34 (C : gC X M) (hM : M.1.cls = "SwingDeskModel") (hd : decode M.2.1 pc = .ok (.getfield 34, 3)) (k : GW X M (pc + 3) L (.ref 48 :: S) (mk F G) kc ks) : GW X M pc L (.ref 39 :: S) (mk F G) kc ks := gw_get C (v := .ref 48) mk_38 rfl gi_SwingDeskModel 10 (by decide) (by rw [hM]; exact wf_Model_34) rfl hd k
theorem gg_Model_37 (C : gC X M) (hM : M.1.cls = "SwingDeskModel") (hd : decode M.2.1 pc = .ok (.getfield 37, 3)) (k : GW X M (pc + 3) L (.ref 49 :: S) (mk F G) kc ks) : GW X M pc L (.ref 39 :: S) (mk F G) kc ks := gw_get C (v := .ref 49) mk_38 rfl gi_SwingDeskModel 11 (by decide) (by rw [hM]; exact wf_Model_37) rfl hd k
theorem gg_Model_40 (C : gC X M) (hM : M.1.cls = "SwingDeskModel") (hd : decode M.2.1 pc = .ok (.getfield 40, 3)) (k : GW X M (pc + 3) L (.ref 50 :: S) (mk F G) kc ks) : GW X M pc L (.ref 39 :: S) (mk F G) kc ks := gw_get C (v := .ref 50) mk_38 rfl gi_SwingDeskModel 12 (by decide) (by rw [hM]; exact wf_Model_40) rfl hd k
theorem gg_Model_43 (C : gC X M) (hM : M.1.cls = "SwingDeskModel") (hd : decode M.2.1 pc = .ok (.getfield 43, 3)) (k : GW X M (pc + 3) L (.ref 51 :: S) (mk F G) kc ks) : GW X M pc L (.ref 39 :: S) (mk F G) kc ks := gw_get C (v := .ref 51) mk_38 rfl gi_SwingDeskModel 13 (by decide) (by rw [hM]; exact wf_Model_43) rfl hd k
theorem gg_Model_119 (C : gC X M) (hM : M.1.cls = "SwingDeskModel") (hd : decode M.2.1 pc = .ok (.getfield 119, 3)) (k : GW X M (pc + 3) L (.int (F 112 0) :: S) (mk F G) kc ks) : GW X M pc L (.ref 39 :: S) (mk F G) kc ks := gw_get C (v := .int (F 112 0)) mk_38 rfl gi_SwingDeskModel 14 (by decide) (by rw [hM]; exact wf_Model_119) rfl hd k
theorem gp_Model_119 (C : gC X M) (hM : M.1.cls = "SwingDeskModel") {x : Int32} (hd : decode M.2.1 pc = .ok (.putfield 119, 3)) (k : GW X M (pc + 3) L S (mk (upS F 112 x) G) kc ks) : GW X M pc L (.int x :: .ref 39 :: S) (mk F G) kc ks := gw_put C (v := .int x) mk_38 rfl gi_SwingDeskModel gt_SwingDeskModel gty_SwingDeskModel gn_SwingDeskModel 14 (by decide) (by rw [hM]; exact wf_Model_119) rfl (fun _ _ h => by cases h; rfl) (fun _ _ h => by cases h; rfl) (Nat.le_of_ble_eq_true rfl) hd k
theorem gg_Model_128 (C : gC X M) (hM : M.1.cls = "SwingDeskModel") (hd : decode M.2.1 pc = .ok (.getfield 128, 3)) (k : GW X M (pc + 3) L (.int (F 113 0) :: S) (mk F G) kc ks) : GW X M pc L (.ref 39 :: S) (mk F G) kc ks := gw_get C (v := .int (F 113 0)) mk_38 rfl gi_SwingDeskModel 15 (by decide) (by rw [hM]; exact wf_Model_128) rfl hd k
theorem gp_Model_128 (C : gC X M) (hM : M.1.cls = "SwingDeskModel") {x : Int32} (hb : narrow .boolean (.int x) = .int x ∧ fits .boolean (.int x) = true) (hd : decode M.2.1 pc = .ok (.putfield 128, 3)) (k : GW X M (pc + 3) L S (mk (upS F 113 x) G) kc ks) : GW X M pc L (.int x :: .ref 39 :: S) (mk F G) kc ks := gw_put C (v := .int x) mk_38 rfl gi_SwingDeskModel gt_SwingDeskModel gty_SwingDeskModel gn_SwingDeskModel 15 (by decide) (by rw [hM]; exact wf_Model_128) rfl (fun _ _ h => by cases h; exact hb.1) (fun _ _ h => by cases h; exact hb.2) (Nat.le_of_ble_eq_true rfl) hd k
theorem gg_Model_46 (C : gC X M) (hM : M.1.cls = "SwingDeskModel") (hd : decode M.2.1 pc = .ok (.getfield 46, 3)) (k : GW X M (pc + 3) L (.ref 52 :: S) (mk F G) kc ks) : GW X M pc L (.ref 39 :: S) (mk F G) kc ks := gw_get C (v := .ref 52) mk_38 rfl gi_SwingDeskModel 16 (by decide) (by rw [hM]; exact wf_Model_46) rfl hd k
theorem gg_Model_49 (C : gC X M) (hM : M.1.cls = "SwingDeskModel") (hd : decode M.2.1 pc = .ok (.getfield 49, 3)) (k : GW X M (pc + 3) L (.ref 53 :: S) (mk F G) kc ks) : GW X M pc L (.ref 39 :: S) (mk F G) kc ks := gw_get C (v := .ref 53) mk_38 rfl gi_SwingDeskModel 17 (by decide) (by rw [hM]; exact wf_Model_49) rfl hd k
theorem gg_Model_52 (C : gC X M) (hM : M.1.cls = "SwingDeskModel") (hd : decode M.2.1 pc = .ok (.getfield 52, 3)) (k : GW X M (pc + 3) L (.ref 54 :: S) (mk F G) kc ks) : GW X M pc L (.ref 39 :: S) (mk F G) kc ks := gw_get C (v := .ref 54) mk_38 rfl gi_SwingDeskModel 18 (by decide) (by rw [hM]; exact wf_Model_52) rfl hd k
theorem gg_Model_55 (C : gC X M) (hM : M.1.cls = "SwingDeskModel") (hd : decode M.2.1 pc = .ok (.getfield 55, 3)) (k : GW X M (pc + 3) L (.ref 55 :: S) (mk F G) kc ks) : GW X M pc L (.ref 39 :: S) (mk F G) kc ks := gw_get C (v := .ref 55) mk_38 rfl gi_SwingDeskModel 19 (by decide) (by rw [hM]; exact wf_Model_55) rfl hd k
theorem gg_Model_58 (C : gC X M) (hM : M.1.cls = "SwingDeskModel") (hd : decode M.2.1 pc = .ok (.getfield 58, 3)) (k : GW X M (pc + 3) L (.ref 56 :: S) (mk F G) kc ks) : GW X M pc L (.ref 39 :: S) (mk F G) kc ks := gw_get C (v := .ref 56) mk_38 rfl gi_SwingDeskModel 20 (by decide) (by rw [hM]; exact wf_Model_58) rfl hd k
theorem gg_Model_61 (C : gC X M) (hM : M.1.cls = "SwingDeskModel") (hd : decode M.2.1 pc = .ok (.getfield 61, 3)) (k : GW X M (pc + 3) L (.ref 57 :: S) (mk F G) kc ks) : GW X M pc L (.ref 39 :: S) (mk F G) kc ks := gw_get C (v := .ref 57) mk_38 rfl gi_SwingDeskModel 21 (by decide) (by rw [hM]; exact wf_Model_61) rfl hd k
theorem gg_Model_165 (C : gC X M) (hM : M.1.cls = "SwingDeskModel") (hd : decode M.2.1 pc = .ok (.getfield 165, 3)) (k : GW X M (pc + 3) L (.int (F 114 0) :: S) (mk F G) kc ks) : GW X M pc L (.ref 39 :: S) (mk F G) kc ks := gw_get C (v := .int (F 114 0)) mk_38 rfl gi_SwingDeskModel 22 (by decide) (by rw [hM]; exact wf_Model_165) rfl hd k
theorem gp_Model_165 (C : gC X M) (hM : M.1.cls = "SwingDeskModel") {x : Int32} (hd : decode M.2.1 pc = .ok (.putfield 165, 3)) (k : GW X M (pc + 3) L S (mk (upS F 114 x) G) kc ks) : GW X M pc L (.int x :: .ref 39 :: S) (mk F G) kc ks := gw_put C (v := .int x) mk_38 rfl gi_SwingDeskModel gt_SwingDeskModel gty_SwingDeskModel gn_SwingDeskModel 22 (by decide) (by rw [hM]; exact wf_Model_165) rfl (fun _ _ h => by cases h; rfl) (fun _ _ h => by cases h; rfl) (Nat.le_of_ble_eq_true rfl) hd k
theorem gg_Model_174 (C : gC X M) (hM : M.1.cls = "SwingDeskModel") (hd : decode M.2.1 pc = .ok (.getfield 174, 3)) (k : GW X M (pc + 3) L (.int (F 115 0) :: S) (mk F G) kc ks) : GW X M pc L (.ref 39 :: S) (mk F G) kc ks := gw_get C (v := .int (F 115 0)) mk_38 rfl gi_SwingDeskModel 23 (by decide) (by rw [hM]; exact wf_Model_174) rfl hd k
theorem gp_Model_174 (C : gC X M) (hM : M.1.cls = "SwingDeskModel") {x : Int32} (hd : decode M.2.1 pc = .ok (.putfield 174, 3)) (k : GW X M (pc + 3) L S (mk (upS F 115 x) G) kc ks) : GW X M pc L (.int x :: .ref 39 :: S) (mk F G) kc ks := gw_put C (v := .int x) mk_38 rfl gi_SwingDeskModel gt_SwingDeskModel gty_SwingDeskModel gn_SwingDeskModel 23 (by decide) (by rw [hM]; exact wf_Model_174) rfl (fun _ _ h => by cases h; rfl) (fun _ _ h => by cases h; rfl) (Nat.le_of_ble_eq_true rfl) hd k
theorem gg_Model_168 (C : gC X M) (hM : M.1.cls = "SwingDeskModel") (hd : decode M.2.1 pc = .ok (.getfield 168, 3)) (k : GW X M (pc + 3) L (.int (F 116 0) :: S) (mk F G) kc ks) : GW X M pc L (.ref 39 :: S) (mk F G) kc ks := gw_get C (v := .int (F 116 0)) mk_38 rfl gi_SwingDeskModel 24 (by decide) (by rw [hM]; exact wf_Model_168) rfl hd k
theorem gp_Model_168 (C : gC X M) (hM : M.1.cls = "SwingDeskModel") {x : Int32} (hb : narrow .boolean (.int x) = .int x ∧ fits .boolean (.int x) = true) (hd : decode M.2.1 pc = .ok (.putfield 168, 3)) (k : GW X M (pc + 3) L S (mk (upS F 116 x) G) kc ks) : GW X M pc L (.int x :: .ref 39 :: S) (mk F G) kc ks := gw_put C (v := .int x) mk_38 rfl gi_SwingDeskModel gt_SwingDeskModel gty_SwingDeskModel gn_SwingDeskModel 24 (by decide) (by rw [hM]; exact wf_Model_168) rfl (fun _ _ h => by cases h; exact hb.1) (fun _ _ h => by cases h; exact hb.2) (Nat.le_of_ble_eq_true rfl) hd k
theorem gg_Model_65 (C : gC X M) (hM : M.1.cls = "SwingDeskModel") (hd : decode M.2.1 pc = .ok (.getfield 65, 3)) (k : GW X M (pc + 3) L (.ref 58 :: S) (mk F G) kc ks) : GW X M pc L (.ref 39 :: S) (mk F G) kc ks := gw_get C (v := .ref 58) mk_38 rfl gi_SwingDeskModel 25 (by decide) (by rw [hM]; exact wf_Model_65) rfl hd k
theorem gg_Model_68 (C : gC X M) (hM : M.1.cls = "SwingDeskModel") (hd : decode M.2.1 pc = .ok (.getfield 68, 3)) (k : GW X M (pc + 3) L (.ref 59 :: S) (mk F G) kc ks) : GW X M pc L (.ref 39 :: S) (mk F G) kc ks := gw_get C (v := .ref 59) mk_38 rfl gi_SwingDeskModel 26 (by decide) (by rw [hM]; exact wf_Model_68) rfl hd k
theorem gg_Model_71 (C : gC X M) (hM : M.1.cls = "SwingDeskModel") (hd : decode M.2.1 pc = .ok (.getfield 71, 3)) (k : GW X M (pc + 3) L (.ref 60 :: S) (mk F G) kc ks) : GW X M pc L (.ref 39 :: S) (mk F G) kc ks := gw_get C (v := .ref 60) mk_38 rfl gi_SwingDeskModel 27 (by decide) (by rw [hM]; exact wf_Model_71) rfl hd k
end GMK
