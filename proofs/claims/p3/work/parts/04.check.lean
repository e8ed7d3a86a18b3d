def xRN (w : Nat) : String := match w with
  | 0 => RX0
  | 1 => RX1
  | 2 => RX2
  | 3 => RX3
  | 4 => RX4
  | 5 => RX5
  | 6 => RX6
  | 7 => RX7
  | 8 => RX8
  | 9 => RX9
  | 10 => RX10
  | 11 => RX11
  | 12 => RX12
  | 13 => RL
  | 14 => RJ6
  | 15 => RJ13
  | 16 => RJ9
  | 17 => RJ10
  | 18 => RJ7
  | _ => ""
def xFL_0 : List (Nat × Nat × Nat × Nat) := [(0, 9, 0, 2), (0, 15, 0, 3), (0, 18, 0, 4), (0, 21, 0, 0), (0, 25, 0, 1), (0, 44, 7, 8), (1, 9, 1, 0), (1, 15, 1, 2), (1, 18, 1, 5), (1, 21, 1, 1), (1, 25, 1, 3), (1, 28, 1, 4), (1, 31, 1, 6), (1, 34, 1, 7), (1, 37, 1, 8)]
def xFL_1 : List (Nat × Nat × Nat × Nat) := [(1, 40, 1, 9), (2, 9, 2, 1), (2, 15, 2, 0), (2, 19, 10, 1), (2, 25, 10, 0), (2, 50, 10, 2), (2, 57, 9, 0), (3, 9, 3, 2), (3, 15, 3, 3), (3, 18, 3, 4), (3, 21, 3, 0), (3, 25, 3, 1), (3, 29, 3, 6), (3, 33, 3, 8), (3, 36, 3, 9)]
def xFL_2 : List (Nat × Nat × Nat × Nat) := [(3, 39, 5, 1), (3, 44, 5, 0), (3, 54, 3, 5), (3, 57, 7, 3), (3, 64, 3, 7), (3, 67, 7, 4), (3, 82, 7, 1), (4, 11, 4, 2), (4, 16, 4, 3), (4, 20, 4, 4), (4, 24, 4, 5), (4, 27, 4, 6), (4, 30, 4, 0), (4, 34, 4, 1), (4, 38, 5, 1)]
def xFL_3 : List (Nat × Nat × Nat × Nat) := [(4, 58, 5, 0), (4, 83, 8, 0), (5, 9, 5, 1), (5, 15, 5, 0), (6, 9, 6, 3), (6, 15, 6, 4), (6, 18, 6, 5), (6, 21, 6, 0), (6, 25, 6, 1), (6, 29, 6, 2), (6, 33, 6, 9), (6, 37, 6, 6), (6, 41, 5, 0), (6, 46, 5, 1), (6, 55, 6, 8)]
def xFL_4 : List (Nat × Nat × Nat × Nat) := [(6, 58, 6, 7), (6, 80, 7, 4), (7, 11, 7, 2), (7, 16, 7, 3), (7, 20, 7, 4), (7, 23, 7, 5), (7, 27, 7, 0), (7, 31, 7, 1), (7, 35, 7, 6), (7, 39, 7, 7), (7, 42, 7, 8), (7, 45, 7, 9), (7, 48, 7, 10), (7, 85, 9, 0), (8, 9, 8, 0)]
def xFL_5 : List (Nat × Nat × Nat × Nat) := [(9, 9, 9, 1), (9, 15, 9, 2), (9, 18, 9, 3), (9, 21, 9, 4), (9, 24, 9, 5), (9, 27, 9, 0), (10, 9, 10, 0), (10, 15, 10, 1), (10, 19, 10, 2), (10, 22, 1, 2), (10, 31, 1, 3), (10, 34, 1, 4), (11, 10, 11, 0), (11, 16, 11, 1), (11, 19, 11, 2)]
def xFL_6 : List (Nat × Nat × Nat × Nat) := [(11, 29, 11, 3), (11, 56, 11, 4), (11, 65, 11, 5), (11, 74, 11, 6), (11, 83, 11, 7), (11, 93, 11, 8), (11, 100, 11, 9), (11, 106, 11, 10), (11, 114, 9, 0), (11, 128, 5, 0), (11, 178, 5, 1), (11, 189, 11, 11), (11, 210, 3, 3), (11, 216, 3, 2), (11, 230, 1, 1)]
def xFL_7 : List (Nat × Nat × Nat × Nat) := [(11, 249, 10, 2), (12, 7, 12, 2), (12, 13, 12, 3), (12, 17, 12, 4), (12, 20, 12, 6), (12, 23, 12, 7), (12, 26, 12, 8), (12, 29, 12, 9), (12, 32, 12, 10), (12, 35, 12, 11), (12, 38, 12, 12), (12, 41, 12, 13), (12, 44, 12, 14), (12, 47, 12, 16), (12, 50, 12, 18)]
def xFL_8 : List (Nat × Nat × Nat × Nat) := [(12, 53, 12, 19), (12, 56, 12, 20), (12, 59, 12, 22), (12, 62, 12, 23), (12, 65, 12, 24), (12, 68, 12, 27), (12, 71, 12, 28), (12, 74, 12, 29), (12, 81, 12, 0), (12, 126, 12, 5), (12, 156, 12, 1), (12, 163, 12, 15), (12, 166, 12, 17), (12, 181, 12, 21), (12, 186, 12, 25)]
def xFL_9 : List (Nat × Nat × Nat × Nat) := [(12, 189, 12, 26)]
def xFL : List (Nat × Nat × Nat × Nat) := xFL_0 ++ (xFL_1 ++ (xFL_2 ++ (xFL_3 ++ (xFL_4 ++ (xFL_5 ++ (xFL_6 ++ (xFL_7 ++ (xFL_8 ++ (xFL_9)))))))))
def xML_0 : List (Nat × Nat × Nat × Nat × Nat) := [(0, 29, 1, 181, 2), (0, 35, 0, 4, 0), (0, 38, 0, 46, 4), (0, 47, 0, 60, 0), (1, 44, 0, 9, 1), (1, 48, 0, 8, 2), (1, 52, 0, 11, 1), (1, 56, 0, 10, 1), (1, 59, 0, 12, 1), (1, 62, 1, 13, 1), (2, 28, 0, 60, 0), (2, 34, 0, 70, 1), (2, 38, 0, 16, 3), (2, 42, 0, 17, 4), (2, 46, 0, 71, 2)]
def xML_1 : List (Nat × Nat × Nat × Nat × Nat) := [(2, 53, 0, 15, 4), (3, 48, 0, 46, 4), (3, 70, 0, 22, 0), (3, 74, 0, 24, 1), (3, 78, 2, 116, 1), (3, 86, 0, 58, 3), (4, 48, 0, 29, 1), (4, 52, 0, 30, 1), (4, 55, 0, 32, 1), (4, 62, 2, 117, 2), (4, 66, 0, 56, 4), (4, 72, 0, 31, 1), (4, 76, 0, 33, 1), (4, 79, 0, 34, 4), (4, 87, 0, 70, 1)]
def xML_2 : List (Nat × Nat × Nat × Nat × Nat) := [(4, 93, 2, 118, 2), (4, 97, 0, 58, 3), (4, 101, 0, 57, 3), (6, 49, 0, 60, 0), (6, 61, 0, 43, 1), (6, 65, 1, 179, 1), (6, 71, 0, 42, 1), (6, 74, 0, 46, 4), (6, 83, 0, 44, 1), (7, 52, 0, 47, 0), (7, 55, 1, 181, 2), (7, 67, 2, 117, 2), (7, 71, 0, 48, 0), (7, 75, 0, 57, 3), (7, 81, 1, 49, 2)]
def xML_3 : List (Nat × Nat × Nat × Nat × Nat) := [(7, 88, 0, 65, 3), (7, 92, 0, 60, 0), (7, 96, 2, 118, 2), (7, 100, 0, 50, 1), (7, 104, 0, 52, 1), (7, 108, 0, 53, 1), (7, 111, 0, 54, 1), (7, 115, 0, 58, 3), (7, 119, 0, 51, 1), (7, 122, 1, 179, 1), (7, 128, 2, 116, 1), (8, 15, 0, 71, 2), (8, 21, 0, 70, 1), (8, 25, 1, 180, 1), (8, 31, 0, 56, 4)]
def xML_4 : List (Nat × Nat × Nat × Nat × Nat) := [(8, 35, 2, 118, 2), (9, 31, 0, 60, 0), (9, 35, 0, 64, 0), (9, 38, 1, 181, 2), (9, 44, 0, 68, 0), (9, 47, 0, 67, 4), (9, 51, 2, 116, 1), (9, 55, 0, 69, 2), (9, 59, 0, 71, 2), (9, 63, 1, 179, 1), (9, 82, 0, 77, 1), (9, 85, 1, 79, 3), (11, 9, 4, 59, 0), (11, 22, 0, 62, 1), (11, 28, 4, 35, 0)]
def xML_5 : List (Nat × Nat × Nat × Nat × Nat) := [(11, 33, 0, 60, 0), (11, 37, 0, 36, 2), (11, 43, 3, 55, 1), (11, 48, 3, 45, 2), (11, 53, 3, 25, 2), (11, 62, 3, 19, 2), (11, 71, 3, 38, 3), (11, 80, 3, 0, 2), (11, 87, 0, 1, 0), (11, 92, 4, 5, 0), (11, 99, 3, 14, 1), (11, 110, 4, 80, 0), (11, 111, 0, 81, 0), (11, 118, 0, 113, 0), (11, 121, 0, 109, 1)]
def xML_6 : List (Nat × Nat × Nat × Nat × Nat) := [(11, 125, 0, 63, 2), (11, 129, 0, 114, 0), (11, 132, 1, 110, 1), (11, 135, 0, 65, 3), (11, 139, 0, 66, 4), (11, 143, 0, 61, 1), (11, 146, 0, 71, 2), (11, 150, 0, 70, 1), (11, 154, 0, 72, 0), (11, 157, 0, 75, 2), (11, 161, 0, 74, 1), (11, 164, 0, 76, 3), (11, 168, 0, 78, 2), (11, 172, 0, 115, 0), (11, 175, 0, 37, 1)]
def xML_7 : List (Nat × Nat × Nat × Nat × Nat) := [(11, 182, 1, 111, 1), (11, 185, 0, 28, 1), (11, 193, 0, 27, 1), (11, 196, 1, 117, 2), (11, 200, 0, 22, 0), (11, 204, 0, 21, 0), (11, 207, 0, 23, 0), (11, 213, 1, 116, 1), (11, 219, 0, 40, 0), (11, 222, 0, 41, 0), (11, 225, 1, 179, 1), (11, 233, 0, 6, 1), (11, 236, 1, 112, 1), (11, 239, 0, 7, 1), (11, 241, 0, 82, 1)]
def xML_8 : List (Nat × Nat × Nat × Nat × Nat) := [(11, 245, 0, 15, 4), (11, 252, 0, 18, 2), (11, 256, 0, 2, 1), (11, 259, 0, 3, 1), (11, 262, 0, 73, 0), (11, 265, 0, 26, 0), (11, 266, 0, 20, 0), (11, 267, 0, 39, 0), (12, 77, 0, 129, 1), (12, 84, 1, 120, 3), (12, 88, 0, 121, 0), (12, 92, 0, 126, 0), (12, 95, 0, 127, 0), (12, 98, 0, 128, 0), (12, 101, 0, 122, 1)]
def xML_9 : List (Nat × Nat × Nat × Nat × Nat) := [(12, 105, 0, 125, 3), (12, 108, 0, 132, 4), (12, 112, 0, 123, 1), (12, 115, 0, 134, 2), (12, 119, 0, 136, 1), (12, 123, 0, 139, 1), (12, 129, 0, 124, 1), (12, 132, 0, 144, 4), (12, 135, 0, 147, 1), (12, 140, 0, 148, 1), (12, 145, 0, 149, 1), (12, 149, 0, 146, 2), (12, 153, 0, 150, 1), (12, 160, 0, 151, 1), (12, 169, 0, 155, 1)]
def xML_10 : List (Nat × Nat × Nat × Nat × Nat) := [(12, 172, 0, 154, 1), (12, 175, 0, 160, 1), (12, 178, 1, 159, 1), (12, 192, 0, 164, 1), (12, 195, 0, 166, 1), (12, 197, 1, 165, 1), (12, 200, 1, 168, 1), (12, 203, 0, 167, 0), (12, 207, 0, 170, 4), (12, 211, 0, 172, 1), (12, 214, 0, 175, 1), (12, 217, 0, 174, 2), (13, 9, 3, 83, 0), (13, 12, 3, 119, 0), (13, 13, 0, 84, 1)]
def xML_11 : List (Nat × Nat × Nat × Nat × Nat) := [(13, 17, 0, 130, 1), (13, 18, 0, 85, 2), (13, 22, 0, 131, 2), (13, 23, 0, 86, 4), (13, 27, 0, 133, 4), (13, 28, 0, 87, 2), (13, 31, 0, 135, 2), (13, 32, 0, 88, 1), (13, 35, 0, 137, 1), (13, 36, 0, 89, 0), (13, 40, 0, 138, 0), (13, 41, 0, 90, 2), (13, 44, 0, 140, 2), (13, 45, 0, 91, 0), (13, 48, 0, 141, 0)]
def xML_12 : List (Nat × Nat × Nat × Nat × Nat) := [(13, 49, 0, 92, 1), (13, 52, 0, 142, 1), (13, 53, 0, 93, 1), (13, 56, 0, 143, 1), (13, 57, 0, 94, 3), (13, 61, 0, 145, 3), (13, 62, 0, 95, 3), (13, 65, 0, 152, 3), (13, 66, 0, 96, 1), (13, 69, 0, 153, 1), (13, 70, 0, 97, 1), (13, 73, 0, 156, 1), (13, 74, 0, 98, 2), (13, 77, 0, 157, 2), (13, 78, 0, 99, 2)]
def xML_13 : List (Nat × Nat × Nat × Nat × Nat) := [(13, 81, 0, 158, 2), (13, 82, 0, 100, 1), (13, 85, 0, 161, 1), (13, 88, 0, 101, 2), (13, 92, 0, 162, 2), (13, 93, 0, 102, 0), (13, 96, 0, 163, 0), (13, 97, 0, 103, 1), (13, 100, 0, 169, 1), (13, 101, 0, 104, 4), (13, 104, 0, 171, 4), (13, 105, 0, 105, 2), (13, 108, 0, 173, 2), (13, 109, 0, 106, 2), (13, 112, 0, 176, 2)]
def xML_14 : List (Nat × Nat × Nat × Nat × Nat) := [(13, 113, 0, 107, 1), (13, 116, 0, 177, 1), (13, 117, 0, 108, 0), (13, 121, 0, 178, 0)]
def xML : List (Nat × Nat × Nat × Nat × Nat) := xML_0 ++ (xML_1 ++ (xML_2 ++ (xML_3 ++ (xML_4 ++ (xML_5 ++ (xML_6 ++ (xML_7 ++ (xML_8 ++ (xML_9 ++ (xML_10 ++ (xML_11 ++ (xML_12 ++ (xML_13 ++ (xML_14))))))))))))))
def xSL_0 : List (Nat × Nat × Nat) := [(3, 58, 0), (4, 42, 0), (7, 61, 0), (9, 68, 0), (9, 74, 1), (9, 79, 2), (10, 25, 0)]
def xSL : List (Nat × Nat × Nat) := xSL_0
def xOL_0 : List (Nat × Nat) := [(0, 3), (1, 3), (2, 3), (3, 3), (4, 3), (5, 3), (6, 3), (7, 3), (8, 3), (9, 3), (10, 3), (11, 1), (12, 1)]
def xOL : List (Nat × Nat) := xOL_0
/-- what each such row says of the words -/
def xMW (q : Nat × Nat × Nat × Nat × Nat) : Bool := match q.2.2.1 with
  | 0 => xcok xP (xRN q.1) (.null, q.2.2.2.1, q.2.2.2.2) (.invokevirtual q.2.1)
  | 1 => xcok xP (xRN q.1) (.int 0, q.2.2.2.1, q.2.2.2.2) (.invokestatic q.2.1)
  | 2 => xcok xP (xRN q.1) (.long 0, q.2.2.2.1, q.2.2.2.2) (.invokestatic q.2.1)
  | 3 => xcok xP (xRN q.1) (.int 0, q.2.2.2.1, q.2.2.2.2) (.invokespecial q.2.1)
  | _ => xcok xP (xRN q.1) (.long 0, q.2.2.2.1, q.2.2.2.2) (.invokespecial q.2.1)
def xOW (q : Nat × Nat) : Bool := decide (xMem (.methodLink (xRN q.1) q.2 objectInit)) && decide (xMem (.instanceMethod objectInit)) && decide (xMem (.code objectInit ⟨#[0xb1]⟩ 1 none))
theorem xFL_0_ok : ∀ q ∈ xFL_0, xgF (xRN q.1) q.2.1 q.2.2.1 q.2.2.2 = true := by decide +kernel
theorem xFL_1_ok : ∀ q ∈ xFL_1, xgF (xRN q.1) q.2.1 q.2.2.1 q.2.2.2 = true := by decide +kernel
theorem xFL_2_ok : ∀ q ∈ xFL_2, xgF (xRN q.1) q.2.1 q.2.2.1 q.2.2.2 = true := by decide +kernel
theorem xFL_3_ok : ∀ q ∈ xFL_3, xgF (xRN q.1) q.2.1 q.2.2.1 q.2.2.2 = true := by decide +kernel
theorem xFL_4_ok : ∀ q ∈ xFL_4, xgF (xRN q.1) q.2.1 q.2.2.1 q.2.2.2 = true := by decide +kernel
theorem xFL_5_ok : ∀ q ∈ xFL_5, xgF (xRN q.1) q.2.1 q.2.2.1 q.2.2.2 = true := by decide +kernel
theorem xFL_6_ok : ∀ q ∈ xFL_6, xgF (xRN q.1) q.2.1 q.2.2.1 q.2.2.2 = true := by decide +kernel
theorem xFL_7_ok : ∀ q ∈ xFL_7, xgF (xRN q.1) q.2.1 q.2.2.1 q.2.2.2 = true := by decide +kernel
theorem xFL_8_ok : ∀ q ∈ xFL_8, xgF (xRN q.1) q.2.1 q.2.2.1 q.2.2.2 = true := by decide +kernel
theorem xFL_9_ok : ∀ q ∈ xFL_9, xgF (xRN q.1) q.2.1 q.2.2.1 q.2.2.2 = true := by decide +kernel
theorem xFL_ok : ∀ q ∈ xFL, xgF (xRN q.1) q.2.1 q.2.2.1 q.2.2.2 = true := List.forall_mem_append.mpr ⟨xFL_0_ok, List.forall_mem_append.mpr ⟨xFL_1_ok, List.forall_mem_append.mpr ⟨xFL_2_ok, List.forall_mem_append.mpr ⟨xFL_3_ok, List.forall_mem_append.mpr ⟨xFL_4_ok, List.forall_mem_append.mpr ⟨xFL_5_ok, List.forall_mem_append.mpr ⟨xFL_6_ok, List.forall_mem_append.mpr ⟨xFL_7_ok, List.forall_mem_append.mpr ⟨xFL_8_ok, xFL_9_ok⟩⟩⟩⟩⟩⟩⟩⟩⟩
theorem xML_0_ok : ∀ q ∈ xML_0, xMW q = true := by decide +kernel
theorem xML_1_ok : ∀ q ∈ xML_1, xMW q = true := by decide +kernel
theorem xML_2_ok : ∀ q ∈ xML_2, xMW q = true := by decide +kernel
theorem xML_3_ok : ∀ q ∈ xML_3, xMW q = true := by decide +kernel
theorem xML_4_ok : ∀ q ∈ xML_4, xMW q = true := by decide +kernel
theorem xML_5_ok : ∀ q ∈ xML_5, xMW q = true := by decide +kernel
theorem xML_6_ok : ∀ q ∈ xML_6, xMW q = true := by decide +kernel
theorem xML_7_ok : ∀ q ∈ xML_7, xMW q = true := by decide +kernel
theorem xML_8_ok : ∀ q ∈ xML_8, xMW q = true := by decide +kernel
theorem xML_9_ok : ∀ q ∈ xML_9, xMW q = true := by decide +kernel
theorem xML_10_ok : ∀ q ∈ xML_10, xMW q = true := by decide +kernel
theorem xML_11_ok : ∀ q ∈ xML_11, xMW q = true := by decide +kernel
theorem xML_12_ok : ∀ q ∈ xML_12, xMW q = true := by decide +kernel
theorem xML_13_ok : ∀ q ∈ xML_13, xMW q = true := by decide +kernel
theorem xML_14_ok : ∀ q ∈ xML_14, xMW q = true := by decide +kernel
theorem xML_ok : ∀ q ∈ xML, xMW q = true := List.forall_mem_append.mpr ⟨xML_0_ok, List.forall_mem_append.mpr ⟨xML_1_ok, List.forall_mem_append.mpr ⟨xML_2_ok, List.forall_mem_append.mpr ⟨xML_3_ok, List.forall_mem_append.mpr ⟨xML_4_ok, List.forall_mem_append.mpr ⟨xML_5_ok, List.forall_mem_append.mpr ⟨xML_6_ok, List.forall_mem_append.mpr ⟨xML_7_ok, List.forall_mem_append.mpr ⟨xML_8_ok, List.forall_mem_append.mpr ⟨xML_9_ok, List.forall_mem_append.mpr ⟨xML_10_ok, List.forall_mem_append.mpr ⟨xML_11_ok, List.forall_mem_append.mpr ⟨xML_12_ok, List.forall_mem_append.mpr ⟨xML_13_ok, xML_14_ok⟩⟩⟩⟩⟩⟩⟩⟩⟩⟩⟩⟩⟩⟩
theorem xSL_0_ok : ∀ q ∈ xSL_0, xgN (xRN q.1) q.2.1 q.2.2 = true := by decide +kernel
theorem xSL_ok : ∀ q ∈ xSL, xgN (xRN q.1) q.2.1 q.2.2 = true := xSL_0_ok
theorem xOL_0_ok : ∀ q ∈ xOL_0, xOW q = true := by decide +kernel
theorem xOL_ok : ∀ q ∈ xOL, xOW q = true := xOL_0_ok
/-- the check of an instruction by the lists -/
def yok (w : Nat) (ini : Bool) (pc len : Nat) (a : xA) (ins : Jvm.ClassFile.Instr) : Bool := match ins with
  | .getfield i => len == 3 && decide ((w, i, a.2.1, a.2.2) ∈ xFL)
  | .putfield i => len == 3 && decide ((w, i, a.2.1, a.2.2) ∈ xFL) && xgP (xRN w) ini i a.2.1 a.2.2
  | .invokevirtual i => len == 3 && decide ((w, i, 0, a.2.1, a.2.2) ∈ xML)
  | .invokestatic i => len == 3 && (match a.1 with
    | .null => decide ((w, i, a.2.1) ∈ xSL)
    | .int _ => decide ((w, i, 1, a.2.1, a.2.2) ∈ xML)
    | .long _ => decide ((w, i, 2, a.2.1, a.2.2) ∈ xML)
    | _ => false)
  | .invokespecial i => len == 3 && (match a.1 with
    | .null => decide ((w, i) ∈ xOL)
    | .int _ => decide ((w, i, 3, a.2.1, a.2.2) ∈ xML)
    | .long _ => decide ((w, i, 4, a.2.1, a.2.2) ∈ xML)
    | _ => false)
  | ins => xok (xRN w) ini pc len a ins && xcok xP (xRN w) a ins
theorem yok_ok {w : Nat} {ini : Bool} {pc len : Nat} {a : xA} {ins : Jvm.ClassFile.Instr} (h : yok w ini pc len a ins = true) : xok (xRN w) ini pc len a ins = true ∧ xcok xP (xRN w) a ins = true := by
  obtain ⟨v, k, n⟩ := a
  unfold yok at h
  split at h
  · next i =>
    simp only [Bool.and_eq_true, decide_eq_true_eq, beq_iff_eq] at h
    refine ⟨?_, rfl⟩
    simp only [xok, Bool.and_eq_true, beq_iff_eq]
    exact ⟨h.1, xFL_ok _ h.2⟩
  · next i =>
    simp only [Bool.and_eq_true, decide_eq_true_eq, beq_iff_eq] at h
    refine ⟨?_, rfl⟩
    simp only [xok, Bool.and_eq_true, beq_iff_eq]
    exact ⟨⟨h.1.1, xFL_ok _ h.1.2⟩, h.2⟩
  · next i =>
    simp only [Bool.and_eq_true, decide_eq_true_eq, beq_iff_eq] at h
    refine ⟨by simp only [xok, beq_iff_eq]; exact h.1, ?_⟩
    exact xML_ok _ h.2
  · next i =>
    simp only [Bool.and_eq_true, beq_iff_eq] at h
    obtain ⟨h1, h2⟩ := h
    cases v with
    | null =>
      simp only [decide_eq_true_eq] at h2
      refine ⟨?_, rfl⟩
      simp only [xok, Bool.and_eq_true, beq_iff_eq]
      exact ⟨h1, xSL_ok _ h2⟩
    | int x =>
      simp only [decide_eq_true_eq] at h2
      refine ⟨by simp only [xok, Bool.and_eq_true, beq_iff_eq]; exact ⟨h1, trivial⟩, ?_⟩
      exact xML_ok _ h2
    | long x =>
      simp only [decide_eq_true_eq] at h2
      refine ⟨by simp only [xok, Bool.and_eq_true, beq_iff_eq]; exact ⟨h1, trivial⟩, ?_⟩
      exact xML_ok _ h2
    | _ => cases h2
  · next i =>
    simp only [Bool.and_eq_true, beq_iff_eq] at h
    obtain ⟨h1, h2⟩ := h
    cases v with
    | null =>
      simp only [decide_eq_true_eq] at h2
      refine ⟨?_, rfl⟩
      simp only [xok, Bool.and_eq_true, beq_iff_eq]
      have h3 := xOL_ok _ h2
      unfold xOW at h3
      simp only [Bool.and_eq_true] at h3
      exact ⟨h1, h3⟩
    | int x =>
      simp only [decide_eq_true_eq] at h2
      refine ⟨by simp only [xok, Bool.and_eq_true, beq_iff_eq]; exact ⟨h1, trivial⟩, ?_⟩
      exact xML_ok _ h2
    | long x =>
      simp only [decide_eq_true_eq] at h2
      refine ⟨by simp only [xok, Bool.and_eq_true, beq_iff_eq]; exact ⟨h1, trivial⟩, ?_⟩
      exact xML_ok _ h2
    | _ => cases h2
  · rw [Bool.and_eq_true] at h
    exact h
def xchk (w : Nat) (ini : Bool) (cc : ByteArray) (pc : Nat) (I : xI) : Bool := decide (decode cc pc = .ok (I.1, I.2.1)) && yok w ini pc I.2.1 I.2.2 I.1
