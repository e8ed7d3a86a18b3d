/-! THE HEAP'S SHAPE behind the two constructors (by wip/gen/shape.py) -/
/-- an object's shape: class and fields (0 a whole number, 1 a long one, 2 a reference, and it); an array's: kind, length, references -/
abbrev yS : Type := (Nat × List (Nat × Nat)) ⊕ (Nat × Nat × List Nat)
def shT : List yS := [.inl (11, [(2, 1), (2, 7), (2, 13), (2, 19), (2, 56), (2, 65), (2, 69), (2, 73), (2, 77), (2, 81), (2, 83), (1, 0)]),
  .inl (9, [(0, 0), (2, 2), (2, 3), (2, 4), (2, 5), (2, 6)]),
  .inr (0, 8, []),
  .inr (0, 64, []),
  .inr (0, 256, []),
  .inr (0, 1024, []),
  .inr (0, 8, []),
  .inl (9, [(0, 0), (2, 8), (2, 9), (2, 10), (2, 11), (2, 12)]),
  .inr (0, 8, []),
  .inr (0, 64, []),
  .inr (0, 256, []),
  .inr (0, 1024, []),
  .inr (0, 8, []),
  .inl (9, [(0, 0), (2, 14), (2, 15), (2, 16), (2, 17), (2, 18)]),
  .inr (0, 8, []),
  .inr (0, 64, []),
  .inr (0, 256, []),
  .inr (0, 1024, []),
  .inr (0, 8, []),
  .inl (5, [(0, 0), (2, 20)]),
  .inr (0, 64, []),
  .inl (8, [(2, 1)]),
  .inl (7, [(2, 1), (2, 21), (2, 23), (2, 53), (2, 54), (2, 55), (0, 0), (0, 0), (0, 0), (0, 0), (0, 0)]),
  .inr (4, 29, [24, 25, 26, 27, 28, 29, 30, 31, 32, 33, 34, 35, 36, 37, 38, 39, 40, 41, 42, 43, 44, 45, 46, 47, 48, 49, 50, 51, 52]),
  .inr (0, 64, []),
  .inr (0, 64, []),
  .inr (0, 64, []),
  .inr (0, 64, []),
  .inr (0, 64, []),
  .inr (0, 64, []),
  .inr (0, 64, []),
  .inr (0, 64, []),
  .inr (0, 64, []),
  .inr (0, 64, []),
  .inr (0, 64, []),
  .inr (0, 64, []),
  .inr (0, 64, []),
  .inr (0, 64, []),
  .inr (0, 64, []),
  .inr (0, 64, []),
  .inr (0, 64, []),
  .inr (0, 64, []),
  .inr (0, 64, []),
  .inr (0, 64, []),
  .inr (0, 64, []),
  .inr (0, 64, []),
  .inr (0, 64, []),
  .inr (0, 64, []),
  .inr (0, 64, []),
  .inr (0, 64, []),
  .inr (0, 64, []),
  .inr (0, 64, []),
  .inr (0, 64, []),
  .inr (0, 64, []),
  .inr (0, 64, []),
  .inr (1, 8, []),
  .inl (4, [(2, 21), (2, 19), (2, 57), (2, 61), (2, 62), (2, 63), (2, 64)]),
  .inr (4, 3, [58, 59, 60]),
  .inr (0, 64, []),
  .inr (0, 64, []),
  .inr (0, 64, []),
  .inr (0, 3, []),
  .inr (2, 3, []),
  .inr (0, 64, []),
  .inr (0, 64, []),
  .inl (3, [(2, 22), (2, 19), (2, 66), (2, 67), (2, 68), (0, 0), (0, 0), (0, 0), (0, 0), (0, 0)]),
  .inr (0, 64, []),
  .inr (0, 64, []),
  .inr (0, 64, []),
  .inl (6, [(2, 22), (2, 19), (2, 1), (2, 70), (2, 71), (2, 72), (0, 0), (0, 0), (0, 0), (0, 0)]),
  .inr (0, 10, []),
  .inr (0, 64, []),
  .inr (0, 1024, []),
  .inl (0, [(2, 22), (2, 1), (2, 74), (2, 75), (2, 76)]),
  .inr (0, 64, []),
  .inr (0, 6, []),
  .inr (0, 6, []),
  .inl (1, [(2, 78), (0, 0), (2, 79), (0, 0), (0, 0), (2, 80), (0, 0), (0, 0), (0, 0), (0, 0)]),
  .inr (0, 60, []),
  .inr (0, 60, []),
  .inr (0, 60, []),
  .inl (2, [(2, 1), (2, 82)]),
  .inr (0, 60, []),
  .inr (3, 4, [84, 86, 88, 90]),
  .inl (10, [(2, 85), (0, 0), (0, 0)]),
  .inr (0, 60, []),
  .inl (10, [(2, 87), (0, 0), (0, 0)]),
  .inr (0, 60, []),
  .inl (10, [(2, 89), (0, 0), (0, 0)]),
  .inr (0, 60, []),
  .inl (10, [(2, 91), (0, 0), (0, 0)]),
  .inr (0, 60, []),
  .inl (12, [(0, 0), (1, 0), (0, 0), (2, 93), (2, 94), (0, 0), (2, 95), (2, 96), (2, 97), (2, 98), (2, 99), (0, 0), (2, 100), (2, 101), (2, 102), (0, 0), (2, 103), (0, 0), (2, 104), (2, 105), (2, 106), (0, 0), (2, 107), (2, 108), (2, 109), (0, 0), (0, 0), (2, 110), (2, 111), (2, 112)]),
  .inr (0, 8, []),
  .inr (0, 64, []),
  .inr (0, 8, []),
  .inr (0, 64, []),
  .inr (0, 8, []),
  .inr (0, 64, []),
  .inr (0, 8, []),
  .inr (0, 2048, []),
  .inr (0, 28, []),
  .inr (0, 28, []),
  .inr (0, 28, []),
  .inr (0, 64, []),
  .inr (0, 64, []),
  .inr (0, 60, []),
  .inr (0, 240, []),
  .inr (0, 4, []),
  .inr (0, 60, []),
  .inr (0, 80, []),
  .inr (0, 80, []),
  .inr (0, 25, [])]
theorem sh0 : shT[0]? = some (.inl (11, [(2, 1), (2, 7), (2, 13), (2, 19), (2, 56), (2, 65), (2, 69), (2, 73), (2, 77), (2, 81), (2, 83), (1, 0)])) := rfl
theorem sh1 : shT[1]? = some (.inl (9, [(0, 0), (2, 2), (2, 3), (2, 4), (2, 5), (2, 6)])) := rfl
theorem sh2 : shT[2]? = some (.inr (0, 8, [])) := rfl
theorem sh3 : shT[3]? = some (.inr (0, 64, [])) := rfl
theorem sh4 : shT[4]? = some (.inr (0, 256, [])) := rfl
theorem sh5 : shT[5]? = some (.inr (0, 1024, [])) := rfl
theorem sh6 : shT[6]? = some (.inr (0, 8, [])) := rfl
theorem sh7 : shT[7]? = some (.inl (9, [(0, 0), (2, 8), (2, 9), (2, 10), (2, 11), (2, 12)])) := rfl
theorem sh8 : shT[8]? = some (.inr (0, 8, [])) := rfl
theorem sh9 : shT[9]? = some (.inr (0, 64, [])) := rfl
theorem sh10 : shT[10]? = some (.inr (0, 256, [])) := rfl
theorem sh11 : shT[11]? = some (.inr (0, 1024, [])) := rfl
theorem sh12 : shT[12]? = some (.inr (0, 8, [])) := rfl
theorem sh13 : shT[13]? = some (.inl (9, [(0, 0), (2, 14), (2, 15), (2, 16), (2, 17), (2, 18)])) := rfl
theorem sh14 : shT[14]? = some (.inr (0, 8, [])) := rfl
theorem sh15 : shT[15]? = some (.inr (0, 64, [])) := rfl
theorem sh16 : shT[16]? = some (.inr (0, 256, [])) := rfl
theorem sh17 : shT[17]? = some (.inr (0, 1024, [])) := rfl
theorem sh18 : shT[18]? = some (.inr (0, 8, [])) := rfl
theorem sh19 : shT[19]? = some (.inl (5, [(0, 0), (2, 20)])) := rfl
theorem sh20 : shT[20]? = some (.inr (0, 64, [])) := rfl
theorem sh21 : shT[21]? = some (.inl (8, [(2, 1)])) := rfl
theorem sh22 : shT[22]? = some (.inl (7, [(2, 1), (2, 21), (2, 23), (2, 53), (2, 54), (2, 55), (0, 0), (0, 0), (0, 0), (0, 0), (0, 0)])) := rfl
theorem sh23 : shT[23]? = some (.inr (4, 29, [24, 25, 26, 27, 28, 29, 30, 31, 32, 33, 34, 35, 36, 37, 38, 39, 40, 41, 42, 43, 44, 45, 46, 47, 48, 49, 50, 51, 52])) := rfl
theorem sh24 : shT[24]? = some (.inr (0, 64, [])) := rfl
theorem sh25 : shT[25]? = some (.inr (0, 64, [])) := rfl
theorem sh26 : shT[26]? = some (.inr (0, 64, [])) := rfl
theorem sh27 : shT[27]? = some (.inr (0, 64, [])) := rfl
theorem sh28 : shT[28]? = some (.inr (0, 64, [])) := rfl
theorem sh29 : shT[29]? = some (.inr (0, 64, [])) := rfl
theorem sh30 : shT[30]? = some (.inr (0, 64, [])) := rfl
theorem sh31 : shT[31]? = some (.inr (0, 64, [])) := rfl
theorem sh32 : shT[32]? = some (.inr (0, 64, [])) := rfl
theorem sh33 : shT[33]? = some (.inr (0, 64, [])) := rfl
theorem sh34 : shT[34]? = some (.inr (0, 64, [])) := rfl
theorem sh35 : shT[35]? = some (.inr (0, 64, [])) := rfl
theorem sh36 : shT[36]? = some (.inr (0, 64, [])) := rfl
theorem sh37 : shT[37]? = some (.inr (0, 64, [])) := rfl
theorem sh38 : shT[38]? = some (.inr (0, 64, [])) := rfl
theorem sh39 : shT[39]? = some (.inr (0, 64, [])) := rfl
theorem sh40 : shT[40]? = some (.inr (0, 64, [])) := rfl
theorem sh41 : shT[41]? = some (.inr (0, 64, [])) := rfl
theorem sh42 : shT[42]? = some (.inr (0, 64, [])) := rfl
theorem sh43 : shT[43]? = some (.inr (0, 64, [])) := rfl
theorem sh44 : shT[44]? = some (.inr (0, 64, [])) := rfl
theorem sh45 : shT[45]? = some (.inr (0, 64, [])) := rfl
theorem sh46 : shT[46]? = some (.inr (0, 64, [])) := rfl
theorem sh47 : shT[47]? = some (.inr (0, 64, [])) := rfl
theorem sh48 : shT[48]? = some (.inr (0, 64, [])) := rfl
theorem sh49 : shT[49]? = some (.inr (0, 64, [])) := rfl
theorem sh50 : shT[50]? = some (.inr (0, 64, [])) := rfl
theorem sh51 : shT[51]? = some (.inr (0, 64, [])) := rfl
theorem sh52 : shT[52]? = some (.inr (0, 64, [])) := rfl
theorem sh53 : shT[53]? = some (.inr (0, 64, [])) := rfl
theorem sh54 : shT[54]? = some (.inr (0, 64, [])) := rfl
theorem sh55 : shT[55]? = some (.inr (1, 8, [])) := rfl
theorem sh56 : shT[56]? = some (.inl (4, [(2, 21), (2, 19), (2, 57), (2, 61), (2, 62), (2, 63), (2, 64)])) := rfl
theorem sh57 : shT[57]? = some (.inr (4, 3, [58, 59, 60])) := rfl
theorem sh58 : shT[58]? = some (.inr (0, 64, [])) := rfl
theorem sh59 : shT[59]? = some (.inr (0, 64, [])) := rfl
theorem sh60 : shT[60]? = some (.inr (0, 64, [])) := rfl
theorem sh61 : shT[61]? = some (.inr (0, 3, [])) := rfl
theorem sh62 : shT[62]? = some (.inr (2, 3, [])) := rfl
theorem sh63 : shT[63]? = some (.inr (0, 64, [])) := rfl
theorem sh64 : shT[64]? = some (.inr (0, 64, [])) := rfl
theorem sh65 : shT[65]? = some (.inl (3, [(2, 22), (2, 19), (2, 66), (2, 67), (2, 68), (0, 0), (0, 0), (0, 0), (0, 0), (0, 0)])) := rfl
theorem sh66 : shT[66]? = some (.inr (0, 64, [])) := rfl
theorem sh67 : shT[67]? = some (.inr (0, 64, [])) := rfl
theorem sh68 : shT[68]? = some (.inr (0, 64, [])) := rfl
theorem sh69 : shT[69]? = some (.inl (6, [(2, 22), (2, 19), (2, 1), (2, 70), (2, 71), (2, 72), (0, 0), (0, 0), (0, 0), (0, 0)])) := rfl
theorem sh70 : shT[70]? = some (.inr (0, 10, [])) := rfl
theorem sh71 : shT[71]? = some (.inr (0, 64, [])) := rfl
theorem sh72 : shT[72]? = some (.inr (0, 1024, [])) := rfl
theorem sh73 : shT[73]? = some (.inl (0, [(2, 22), (2, 1), (2, 74), (2, 75), (2, 76)])) := rfl
theorem sh74 : shT[74]? = some (.inr (0, 64, [])) := rfl
theorem sh75 : shT[75]? = some (.inr (0, 6, [])) := rfl
theorem sh76 : shT[76]? = some (.inr (0, 6, [])) := rfl
theorem sh77 : shT[77]? = some (.inl (1, [(2, 78), (0, 0), (2, 79), (0, 0), (0, 0), (2, 80), (0, 0), (0, 0), (0, 0), (0, 0)])) := rfl
theorem sh78 : shT[78]? = some (.inr (0, 60, [])) := rfl
theorem sh79 : shT[79]? = some (.inr (0, 60, [])) := rfl
theorem sh80 : shT[80]? = some (.inr (0, 60, [])) := rfl
theorem sh81 : shT[81]? = some (.inl (2, [(2, 1), (2, 82)])) := rfl
theorem sh82 : shT[82]? = some (.inr (0, 60, [])) := rfl
theorem sh83 : shT[83]? = some (.inr (3, 4, [84, 86, 88, 90])) := rfl
theorem sh84 : shT[84]? = some (.inl (10, [(2, 85), (0, 0), (0, 0)])) := rfl
theorem sh85 : shT[85]? = some (.inr (0, 60, [])) := rfl
theorem sh86 : shT[86]? = some (.inl (10, [(2, 87), (0, 0), (0, 0)])) := rfl
theorem sh87 : shT[87]? = some (.inr (0, 60, [])) := rfl
theorem sh88 : shT[88]? = some (.inl (10, [(2, 89), (0, 0), (0, 0)])) := rfl
theorem sh89 : shT[89]? = some (.inr (0, 60, [])) := rfl
theorem sh90 : shT[90]? = some (.inl (10, [(2, 91), (0, 0), (0, 0)])) := rfl
theorem sh91 : shT[91]? = some (.inr (0, 60, [])) := rfl
theorem sh92 : shT[92]? = some (.inl (12, [(0, 0), (1, 0), (0, 0), (2, 93), (2, 94), (0, 0), (2, 95), (2, 96), (2, 97), (2, 98), (2, 99), (0, 0), (2, 100), (2, 101), (2, 102), (0, 0), (2, 103), (0, 0), (2, 104), (2, 105), (2, 106), (0, 0), (2, 107), (2, 108), (2, 109), (0, 0), (0, 0), (2, 110), (2, 111), (2, 112)])) := rfl
theorem sh93 : shT[93]? = some (.inr (0, 8, [])) := rfl
theorem sh94 : shT[94]? = some (.inr (0, 64, [])) := rfl
theorem sh95 : shT[95]? = some (.inr (0, 8, [])) := rfl
theorem sh96 : shT[96]? = some (.inr (0, 64, [])) := rfl
theorem sh97 : shT[97]? = some (.inr (0, 8, [])) := rfl
theorem sh98 : shT[98]? = some (.inr (0, 64, [])) := rfl
theorem sh99 : shT[99]? = some (.inr (0, 8, [])) := rfl
theorem sh100 : shT[100]? = some (.inr (0, 2048, [])) := rfl
theorem sh101 : shT[101]? = some (.inr (0, 28, [])) := rfl
theorem sh102 : shT[102]? = some (.inr (0, 28, [])) := rfl
theorem sh103 : shT[103]? = some (.inr (0, 28, [])) := rfl
theorem sh104 : shT[104]? = some (.inr (0, 64, [])) := rfl
theorem sh105 : shT[105]? = some (.inr (0, 64, [])) := rfl
theorem sh106 : shT[106]? = some (.inr (0, 60, [])) := rfl
theorem sh107 : shT[107]? = some (.inr (0, 240, [])) := rfl
theorem sh108 : shT[108]? = some (.inr (0, 4, [])) := rfl
theorem sh109 : shT[109]? = some (.inr (0, 60, [])) := rfl
theorem sh110 : shT[110]? = some (.inr (0, 80, [])) := rfl
theorem sh111 : shT[111]? = some (.inr (0, 80, [])) := rfl
theorem sh112 : shT[112]? = some (.inr (0, 25, [])) := rfl
/-! the heap behind the constructors, by running them -/
def xnewO (ci n : Nat) : xO := .inl (ci, (List.range n).map (fun k => xzero (xty ci k)))
def xI1 : Option (Option Value × xH) := xrun xty xP 200000 40 kX11_init 0 (xent 4 [.ref 0]) [] [xnewO 11 12]
def xhB1 : xH := match xI1 with
  | some (_, h) => h
  | none => []
def xI2 : Option (Option Value × xH) := xrun xty xP 200000 40 kX12_init 0 (xent 1 [.ref 92]) [] (xhB1 ++ [xnewO 12 30])
def xhI : xH := match xI2 with
  | some (_, h) => h
  | none => []
/-- what the rows of references hold -/
def xFr (o j : Nat) : Option Nat := match xhI[o]? with
  | some (.inr (_, _, .inr (.inr (.inr (.inr f))))) => f j
  | _ => none
def shOKf : List (Nat × Nat) → List Value → Bool
  | [], [] => true
  | (0, _) :: r, .int _ :: v => shOKf r v
  | (1, _) :: r, .long _ :: v => shOKf r v
  | (2, q) :: r, .ref u :: v => q == u && shOKf r v
  | _, _ => false
def shOKo : yS → xO → Bool
  | .inl (ci, fs), .inl (c, vs) => ci == c && shOKf fs vs
  | .inr (0, n, _), .inr (0, m, .inl _) => n == m
  | .inr (2, n, _), .inr (2, m, .inl _) => n == m
  | .inr (1, n, _), .inr (1, m, .inr (.inl _)) => n == m
  | .inr (3, n, _), .inr (3, m, .inr (.inr (.inr (.inr _)))) => n == m
  | .inr (4, n, _), .inr (4, m, .inr (.inr (.inr (.inr _)))) => n == m
  | _, _ => false
def shOKl : List yS → xH → Bool
  | [], [] => true
  | s :: r, o :: h => shOKo s o && shOKl r h
  | _, _ => false
def isN : Option Value → Bool
  | none => true
  | _ => false
def xini_ok : Bool := (match xI1 with | some (r, _) => isN r | none => false) && (match xI2 with | some (r, _) => isN r | none => false) && shOKl shT xhI && (List.range 29).all (fun n => xFr 23 n == some (24 + n)) && (List.range 3).all (fun n => xFr 57 n == some (58 + n)) && (List.range 4).all (fun n => xFr 83 n == some (84 + 2 * n))
theorem xini : xini_ok = true := by decide +kernel
