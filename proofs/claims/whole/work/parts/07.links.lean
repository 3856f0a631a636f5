def clsN (c : Nat) : String := match c with | 0 => RX0 | 1 => RX1 | 2 => RX2 | 3 => RX3 | 4 => RX4 | 5 => RX5 | 6 => RX6 | 7 => RX7 | 8 => RX8 | 9 => RX9 | 10 => RX10 | _ => ""
def TT (c : Nat) : u_T := match c with | 0 => TX0 | 1 => TX1 | 2 => TX2 | 3 => TX3 | 4 => TX4 | 5 => TX5 | 6 => TX6 | 7 => TX7 | 8 => TX8 | 9 => TX9 | _ => TX10
def tyT (c : Nat) : Nat → FieldType := match c with | 0 => tyX0 | 1 => tyX1 | 2 => tyX2 | 3 => tyX3 | 4 => tyX4 | 5 => tyX5 | 6 => tyX6 | 7 => tyX7 | 8 => tyX8 | 9 => tyX9 | _ => tyX10
def lnkF_0 : List (Nat × Nat × Nat × Nat × Nat × Nat) := [(1, 145, 0, 14, 0, 1), (1, 148, 0, 20, 0, 2), (1, 150, 0, 23, 0, 3), (1, 151, 0, 26, 0, 4), (1, 144, 0, 29, 0, 0), (1, 153, 0, 36, 0, 5), (1, 155, 0, 40, 0, 6), (1, 157, 0, 43, 0, 7), (1, 158, 0, 46, 0, 8), (1, 112, 1, 14, 1, 1), (1, 111, 1, 20, 1, 0), (1, 116, 1, 27, 1, 2), (1, 119, 1, 31, 1, 3), (1, 122, 1, 34, 1, 4), (2, 27, 2, 11, 2, 0), (2, 29, 2, 18, 2, 2), (2, 28, 2, 22, 2, 1), (1, 178, 3, 14, 3, 0), (1, 181, 3, 25, 3, 1), (1, 183, 3, 32, 3, 2), (1, 185, 3, 39, 3, 3), (1, 188, 3, 46, 3, 4), (1, 191, 3, 50, 3, 5), (1, 195, 3, 66, 3, 7), (1, 197, 3, 70, 3, 8), (1, 193, 3, 79, 3, 6), (1, 199, 3, 151, 3, 9), (1, 92, 4, 14, 4, 1), (1, 94, 4, 20, 4, 2), (1, 91, 4, 23, 4, 0), (1, 237, 5, 9, 5, 8), (1, 228, 5, 15, 5, 0), (1, 229, 5, 19, 5, 1), (1, 230, 5, 23, 5, 2), (1, 231, 5, 26, 5, 3), (1, 235, 5, 29, 5, 7), (1, 232, 5, 57, 5, 4), (1, 233, 5, 81, 5, 5), (1, 234, 5, 112, 5, 6), (1, 63, 6, 14, 6, 1)]
def lnkF_1 : List (Nat × Nat × Nat × Nat × Nat × Nat) := [(1, 62, 6, 20, 6, 0), (1, 65, 6, 27, 6, 2), (1, 67, 6, 31, 6, 3), (1, 69, 6, 35, 6, 4), (1, 41, 7, 13, 7, 0), (2, 54, 9, 14, 9, 0), (2, 57, 9, 21, 9, 3), (2, 58, 9, 25, 9, 4), (2, 59, 9, 33, 9, 5), (2, 60, 9, 40, 9, 6), (2, 61, 9, 47, 9, 7), (2, 62, 9, 51, 9, 8), (2, 63, 9, 54, 9, 9), (2, 65, 9, 57, 9, 11), (2, 55, 9, 60, 9, 1), (2, 56, 9, 88, 9, 2), (2, 64, 9, 311, 9, 10), (6, 127, 10, 7, 10, 3), (6, 128, 10, 13, 10, 4), (6, 129, 10, 16, 10, 5), (6, 130, 10, 19, 10, 6), (6, 131, 10, 22, 10, 7), (6, 133, 10, 25, 10, 9), (6, 134, 10, 29, 10, 10), (6, 137, 10, 32, 10, 13), (6, 145, 10, 36, 10, 21), (6, 146, 10, 39, 10, 22), (6, 147, 10, 42, 10, 23), (6, 150, 10, 45, 10, 26), (6, 151, 10, 48, 10, 27), (6, 153, 10, 51, 10, 29), (6, 124, 10, 54, 10, 0), (6, 125, 10, 57, 10, 1), (6, 135, 10, 65, 10, 11), (6, 136, 10, 68, 10, 12), (6, 138, 10, 71, 10, 14), (6, 139, 10, 74, 10, 15), (6, 140, 10, 81, 10, 16), (6, 141, 10, 84, 10, 17), (6, 142, 10, 94, 10, 18)]
def lnkF_2 : List (Nat × Nat × Nat × Nat × Nat × Nat) := [(6, 143, 10, 97, 10, 19), (6, 144, 10, 100, 10, 20), (6, 126, 10, 138, 10, 2), (6, 148, 10, 141, 10, 24), (6, 132, 10, 201, 10, 8), (6, 149, 10, 237, 10, 25), (6, 152, 10, 361, 10, 28), (6, 154, 10, 367, 10, 30)]
def lnkFi : List (Nat × Nat × Nat × Nat × Nat × Nat) := lnkF_0 ++ (lnkF_1 ++ (lnkF_2))
def lnkF : List (Nat × Nat × Nat × Nat) := lnkFi.map (fun x => x.2.2)
def lnkFN_0 : List (Nat × Nat × Nat × Nat × Nat × Nat) := [(1, 113, 3, 82, 1, 1), (1, 70, 3, 98, 6, 4), (1, 120, 3, 116, 1, 3), (1, 118, 3, 154, 1, 2), (1, 147, 3, 163, 0, 1), (1, 124, 3, 194, 1, 4), (1, 189, 5, 90, 3, 4), (1, 179, 5, 106, 3, 0), (1, 186, 5, 115, 3, 3), (1, 114, 5, 125, 1, 1), (1, 236, 9, 77, 5, 7), (2, 48, 9, 95, 8, 1), (1, 190, 9, 98, 3, 4), (1, 154, 9, 102, 0, 5), (1, 238, 9, 107, 5, 8), (1, 187, 9, 113, 3, 3), (1, 194, 9, 123, 3, 6), (1, 182, 9, 126, 3, 1), (1, 71, 9, 130, 6, 4), (1, 192, 9, 135, 3, 5), (1, 180, 9, 142, 3, 0), (1, 117, 9, 145, 1, 2), (1, 121, 9, 148, 1, 3), (1, 123, 9, 155, 1, 4), (1, 146, 9, 161, 0, 1), (1, 149, 9, 164, 0, 2), (1, 152, 9, 170, 0, 4), (1, 156, 9, 188, 0, 6), (1, 64, 9, 194, 6, 1), (1, 66, 9, 197, 6, 2), (1, 68, 9, 200, 6, 3), (1, 184, 9, 215, 3, 2), (1, 93, 9, 219, 4, 1), (1, 95, 9, 227, 4, 2), (1, 196, 9, 233, 3, 7), (1, 198, 9, 236, 3, 8), (1, 200, 9, 288, 3, 9), (1, 115, 9, 333, 1, 1), (2, 30, 9, 358, 2, 2), (2, 47, 9, 378, 8, 0)]
def lnkFNi : List (Nat × Nat × Nat × Nat × Nat × Nat) := lnkFN_0
def lnkFN : List (Nat × Nat × Nat × Nat) := lnkFNi.map (fun x => x.2.2)
def lnkM_0 : List (Nat × Nat × Nat × Nat × Nat) := [(3, 187, 0, 32, 84), (2, 219, 0, 49, 83), (3, 106, 0, 52, 82), (3, 101, 0, 60, 81), (4, 35, 0, 69, 4), (5, 27, 0, 72, 5), (5, 28, 0, 75, 10), (5, 62, 0, 82, 14), (3, 182, 1, 23, 84), (3, 137, 1, 38, 19), (3, 116, 1, 41, 81), (3, 234, 1, 45, 20), (5, 3, 1, 49, 23), (5, 175, 1, 59, 83), (5, 176, 1, 62, 82), (5, 177, 1, 66, 28), (5, 181, 1, 70, 22), (5, 182, 1, 73, 29), (5, 185, 1, 76, 25), (5, 186, 1, 79, 26), (6, 1, 2, 25, 33), (6, 5, 2, 29, 34), (3, 164, 3, 53, 35), (3, 188, 3, 57, 76), (3, 193, 3, 61, 51), (3, 168, 3, 64, 84), (3, 178, 3, 73, 17), (3, 183, 3, 76, 0), (2, 211, 3, 85, 83), (2, 215, 3, 88, 1), (3, 121, 3, 91, 82), (3, 122, 3, 95, 77), (3, 128, 3, 101, 52), (3, 133, 3, 102, 18), (5, 74, 3, 105, 81), (5, 88, 3, 109, 38), (5, 18, 3, 112, 7), (5, 22, 3, 119, 22), (5, 84, 3, 123, 39), (5, 92, 3, 126, 42)]
def lnkM_1 : List (Nat × Nat × Nat × Nat × Nat) := [(5, 93, 3, 130, 9), (5, 94, 3, 134, 44), (5, 121, 3, 138, 12), (5, 125, 3, 141, 40), (5, 98, 3, 144, 11), (5, 102, 3, 147, 78), (5, 108, 3, 157, 53), (5, 109, 3, 160, 54), (5, 110, 3, 166, 55), (5, 116, 3, 170, 45), (5, 120, 3, 173, 23), (5, 133, 3, 176, 47), (5, 141, 3, 179, 49), (5, 137, 3, 182, 48), (5, 145, 3, 185, 25), (5, 146, 3, 188, 26), (5, 150, 3, 191, 19), (5, 151, 3, 198, 13), (5, 75, 3, 201, 3), (5, 80, 3, 210, 43), (5, 129, 3, 214, 46), (3, 197, 4, 26, 84), (3, 132, 4, 30, 83), (4, 97, 4, 33, 81), (5, 114, 4, 37, 82), (4, 138, 4, 47, 53), (4, 139, 4, 50, 54), (4, 167, 4, 54, 56), (4, 193, 4, 58, 59), (2, 207, 5, 32, 36), (2, 220, 5, 37, 73), (3, 3, 5, 42, 69), (3, 63, 5, 46, 66), (3, 83, 5, 50, 70), (3, 7, 5, 62, 71), (3, 90, 5, 66, 64), (3, 108, 5, 71, 65), (3, 59, 5, 74, 72), (3, 117, 5, 78, 37), (2, 224, 5, 84, 81)]
def lnkM_2 : List (Nat × Nat × Nat × Nat × Nat) := [(3, 94, 5, 94, 3), (3, 74, 5, 99, 67), (3, 102, 5, 103, 2), (3, 78, 5, 109, 68), (3, 112, 5, 119, 20), (3, 82, 5, 128, 82), (2, 231, 5, 151, 74), (2, 238, 5, 157, 75), (3, 192, 6, 23, 84), (3, 126, 6, 38, 81), (3, 127, 6, 42, 83), (5, 107, 6, 51, 82), (2, 95, 9, 64, 86), (2, 99, 9, 67, 82), (2, 128, 9, 71, 142), (2, 203, 9, 74, 63), (3, 141, 9, 80, 149), (3, 160, 9, 84, 34), (3, 198, 9, 92, 30), (3, 210, 9, 110, 141), (3, 230, 9, 117, 21), (3, 70, 9, 138, 81), (4, 9, 9, 151, 22), (4, 20, 9, 158, 143), (4, 24, 9, 167, 4), (4, 31, 9, 173, 5), (4, 37, 9, 182, 8), (4, 48, 9, 185, 3), (2, 132, 9, 191, 148), (4, 70, 9, 203, 79), (4, 74, 9, 206, 80), (4, 85, 9, 209, 144), (4, 89, 9, 212, 145), (4, 93, 9, 224, 53), (4, 112, 9, 230, 20), (4, 134, 9, 239, 57), (4, 150, 9, 242, 58), (4, 161, 9, 245, 153), (4, 162, 9, 248, 154), (4, 163, 9, 251, 59)]
def lnkM_3 : List (Nat × Nat × Nat × Nat × Nat) := [(4, 178, 9, 254, 62), (4, 189, 9, 257, 60), (4, 194, 9, 260, 61), (4, 212, 9, 263, 16), (4, 223, 9, 266, 146), (4, 227, 9, 269, 25), (4, 239, 9, 272, 24), (5, 14, 9, 275, 42), (5, 23, 9, 279, 9), (5, 47, 9, 282, 14), (5, 58, 9, 285, 15), (5, 70, 9, 291, 50), (5, 163, 9, 295, 35), (5, 171, 9, 298, 27), (5, 194, 9, 302, 84), (5, 195, 9, 305, 76), (5, 196, 9, 308, 78), (5, 211, 9, 314, 54), (5, 219, 9, 317, 124), (5, 237, 9, 320, 31), (6, 6, 9, 323, 43), (6, 7, 9, 327, 41), (6, 18, 9, 330, 46), (6, 40, 9, 336, 132), (6, 51, 9, 339, 150), (6, 54, 9, 342, 151), (6, 55, 9, 345, 152), (6, 63, 9, 348, 6), (6, 74, 9, 351, 77), (6, 82, 9, 354, 52), (6, 83, 9, 355, 18), (6, 92, 9, 368, 32), (6, 103, 9, 371, 147), (6, 106, 9, 374, 140), (7, 6, 10, 61, 160), (7, 30, 10, 77, 166), (7, 34, 10, 87, 167), (7, 37, 10, 91, 168), (7, 59, 10, 103, 170), (7, 26, 10, 107, 169)]
def lnkM_4 : List (Nat × Nat × Nat × Nat × Nat) := [(7, 49, 10, 119, 173), (7, 55, 10, 123, 171), (7, 63, 10, 127, 172), (7, 3, 10, 130, 158), (7, 71, 10, 134, 175), (7, 22, 10, 144, 181), (7, 94, 10, 148, 183), (7, 67, 10, 151, 176), (7, 75, 10, 154, 180), (7, 90, 10, 159, 184), (7, 99, 10, 164, 185), (7, 45, 10, 169, 174), (7, 79, 10, 173, 177), (7, 18, 10, 180, 182), (7, 40, 10, 183, 187), (7, 85, 10, 186, 186), (7, 103, 10, 189, 189), (7, 10, 10, 192, 178), (7, 14, 10, 195, 188), (7, 107, 10, 198, 179), (7, 159, 10, 209, 191), (7, 150, 10, 212, 192), (7, 155, 10, 218, 193), (8, 59, 10, 221, 194), (7, 131, 10, 224, 196), (8, 55, 10, 227, 195), (8, 110, 10, 231, 198), (8, 155, 10, 240, 200), (8, 150, 10, 243, 201), (8, 122, 10, 246, 199), (8, 106, 10, 249, 204), (8, 51, 10, 252, 197), (8, 146, 10, 255, 202), (8, 138, 10, 259, 203), (8, 118, 10, 262, 206), (8, 126, 10, 265, 210), (8, 130, 10, 268, 209), (8, 39, 10, 271, 207), (8, 134, 10, 274, 208), (8, 114, 10, 277, 211)]
def lnkM_5 : List (Nat × Nat × Nat × Nat × Nat) := [(7, 172, 10, 280, 213), (8, 99, 10, 283, 215), (8, 102, 10, 286, 212), (7, 168, 10, 289, 214), (8, 142, 10, 292, 205), (8, 95, 10, 296, 216), (7, 135, 10, 299, 159), (7, 115, 10, 303, 161), (7, 119, 10, 307, 218), (7, 146, 10, 310, 222), (7, 142, 10, 313, 223), (7, 187, 10, 316, 228), (7, 191, 10, 319, 229), (7, 203, 10, 322, 231), (7, 207, 10, 325, 232), (7, 199, 10, 328, 233), (7, 211, 10, 331, 235), (7, 219, 10, 334, 236), (7, 239, 10, 337, 234), (8, 3, 10, 340, 242), (8, 23, 10, 343, 246), (8, 71, 10, 346, 255), (8, 83, 10, 349, 260), (8, 87, 10, 352, 258), (8, 91, 10, 355, 217), (8, 159, 10, 358, 259), (8, 171, 10, 364, 263), (8, 183, 10, 370, 266), (8, 195, 10, 373, 269), (8, 211, 10, 376, 272), (8, 207, 10, 379, 274), (8, 231, 10, 382, 279), (8, 239, 10, 385, 281), (9, 19, 10, 388, 273)]
def lnkMi : List (Nat × Nat × Nat × Nat × Nat) := lnkM_0 ++ (lnkM_1 ++ (lnkM_2 ++ (lnkM_3 ++ (lnkM_4 ++ (lnkM_5)))))
def lnkM : List (Nat × Nat × Nat) := lnkMi.map (fun x => x.2.2)
def lnkMN_0 : List (Nat × Nat × Nat × Nat × Nat) := [(3, 98, 0, 56, 154), (5, 76, 3, 204, 156), (5, 79, 3, 207, 154), (5, 155, 3, 217, 155), (3, 67, 5, 131, 151), (3, 71, 5, 135, 152), (2, 228, 5, 148, 153), (2, 235, 5, 154, 155)]
def lnkMNi : List (Nat × Nat × Nat × Nat × Nat) := lnkMN_0
def lnkMN : List (Nat × Nat × Nat) := lnkMNi.map (fun x => x.2.2)
def lnkB_0 : List (Nat × Nat × Nat × Nat × Nat) := [(4, 28, 0, 64, 1002), (5, 32, 0, 79, 1000), (4, 231, 1, 53, 1000), (5, 115, 4, 41, 1001), (3, 11, 5, 138, 1004), (3, 21, 5, 144, 1005), (5, 106, 6, 45, 1000), (3, 172, 7, 19, 1001), (3, 175, 7, 22, 1003), (4, 36, 9, 176, 1000), (7, 53, 10, 110, 1004), (7, 54, 10, 115, 1005), (7, 154, 10, 204, 1002), (7, 163, 10, 215, 1000), (8, 154, 10, 234, 1001)]
def lnkBi : List (Nat × Nat × Nat × Nat × Nat) := lnkB_0
def lnkB : List (Nat × Nat × Nat) := lnkBi.map (fun x => x.2.2)
def lnkL_0 : List (Nat × Nat × Nat × Nat × Nat) := [(3, 2, 5, 40, 0), (3, 87, 5, 53, 1), (3, 88, 5, 55, 2), (3, 89, 5, 60, 3), (3, 107, 5, 69, 4), (7, 89, 10, 157, 3), (7, 98, 10, 162, 4), (7, 44, 10, 167, 0), (7, 83, 10, 176, 1), (7, 84, 10, 178, 2)]
def lnkLi : List (Nat × Nat × Nat × Nat × Nat) := lnkL_0
def lnkL : List (Nat × Nat × Nat) := lnkLi.map (fun x => x.2.2)
def tabC (j : Nat) : List Jvm.Cond := match j with | 1 => tables_1_1 | 2 => tables_1_2 | 3 => tables_1_3 | 4 => tables_1_4 | 5 => tables_1_5 | 6 => tables_1_6 | 7 => tables_1_7 | 8 => tables_1_8 | 9 => tables_1_9 | _ => []
def wF (x : Nat × Nat × Nat × Nat) : Jvm.Cond := .fieldLink (clsN x.1) x.2.1 (clsN x.2.2.1) (TT x.2.2.1 x.2.2.2).2.1 (TT x.2.2.1 x.2.2.2).2.2.1
def wFN (x : Nat × Nat × Nat × Nat) : Jvm.Cond := .fieldLinkNest (clsN x.1) x.2.1 (clsN x.2.2.1) (TT x.2.2.1 x.2.2.2).2.1 (TT x.2.2.1 x.2.2.2).2.2.1 "TypebarMachine"
def nameOf (μ : Nat) : MethodName := (mtab μ).2.2.1
def bytesOf (μ : Nat) : ByteArray := (mtab μ).2.2.2.1
def retOf (μ : Nat) : Option FieldType := (mtab μ).2.2.2.2
def wM (x : Nat × Nat × Nat) : Jvm.Cond := .methodLink (clsN x.1) x.2.1 (nameOf x.2.2)
def wMN (x : Nat × Nat × Nat) : Jvm.Cond := .methodLinkNest (clsN x.1) x.2.1 (nameOf x.2.2) "TypebarMachine"
def biN (a : Nat) : MethodName := if a = 1000 then Lib.Math.max.name else if a = 1001 then Lib.Math.min.name else if a = 1002 then Lib.Math.abs.name else if a = 1003 then arraycopyName else if a = 1004 then yJ0_length_8abf5 else yJ0_charAt_5068e
def wB (x : Nat × Nat × Nat) : Jvm.Cond := .methodLink (clsN x.1) x.2.1 (biN x.2.2)
def txS (w : Nat) : String := match w with | 0 => "machine" | 1 => "speed" | 2 => "ribbon" | 3 => "bar" | _ => "tab"
def wL (x : Nat × Nat × Nat) : Jvm.Cond := .stringRef (clsN x.1) x.2.1 (txS x.2.2)
theorem tabC_in {j : Nat} {w : Jvm.Cond} (h : w ∈ tabC j) : w ∈ tables_1 := by
  match j, h with
  | 1, h => exact (by simp only [tables_1, List.mem_append]; simp only [tabC] at h; simp only [h, true_or, or_true])
  | 2, h => exact (by simp only [tables_1, List.mem_append]; simp only [tabC] at h; simp only [h, true_or, or_true])
  | 3, h => exact (by simp only [tables_1, List.mem_append]; simp only [tabC] at h; simp only [h, true_or, or_true])
  | 4, h => exact (by simp only [tables_1, List.mem_append]; simp only [tabC] at h; simp only [h, true_or, or_true])
  | 5, h => exact (by simp only [tables_1, List.mem_append]; simp only [tabC] at h; simp only [h, true_or, or_true])
  | 6, h => exact (by simp only [tables_1, List.mem_append]; simp only [tabC] at h; simp only [h, true_or, or_true])
  | 7, h => exact (by simp only [tables_1, List.mem_append]; simp only [tabC] at h; simp only [h, true_or, or_true])
  | 8, h => exact (by simp only [tables_1, List.mem_append]; simp only [tabC] at h; simp only [h, true_or, or_true])
  | 9, h => exact (by simp only [tables_1, List.mem_append]; simp only [tabC] at h; simp only [h, true_or, or_true])
  | 0, h => exact absurd h List.not_mem_nil
  | _ + 10, h => exact absurd h List.not_mem_nil

theorem lnkF_0_ok : ∀ x ∈ lnkF_0, (tabC x.1)[x.2.1]? = some (wF x.2.2) := by decide +kernel
theorem lnkF_1_ok : ∀ x ∈ lnkF_1, (tabC x.1)[x.2.1]? = some (wF x.2.2) := by decide +kernel
theorem lnkF_2_ok : ∀ x ∈ lnkF_2, (tabC x.1)[x.2.1]? = some (wF x.2.2) := by decide +kernel
theorem lnkF_ok : ∀ x ∈ lnkF, wF x ∈ tables_1 := by
  intro x hx
  obtain ⟨y, hy, rfl⟩ := List.mem_map.mp hx
  have h : (tabC y.1)[y.2.1]? = some (wF y.2.2) := by
    simp only [lnkFi, List.mem_append] at hy
    rcases hy with hy | hy | hy
    · exact lnkF_0_ok _ hy
    · exact lnkF_1_ok _ hy
    · exact lnkF_2_ok _ hy
  exact tabC_in (List.mem_of_getElem? h)
theorem lnkFN_0_ok : ∀ x ∈ lnkFN_0, (tabC x.1)[x.2.1]? = some (wFN x.2.2) := by decide +kernel
theorem lnkFN_ok : ∀ x ∈ lnkFN, wFN x ∈ tables_1 := by
  intro x hx
  obtain ⟨y, hy, rfl⟩ := List.mem_map.mp hx
  have h : (tabC y.1)[y.2.1]? = some (wFN y.2.2) := by
    simp only [lnkFNi, List.mem_append] at hy
    exact lnkFN_0_ok _ hy
  exact tabC_in (List.mem_of_getElem? h)
theorem lnkM_0_ok : ∀ x ∈ lnkM_0, (tabC x.1)[x.2.1]? = some (wM x.2.2) := by decide +kernel
theorem lnkM_1_ok : ∀ x ∈ lnkM_1, (tabC x.1)[x.2.1]? = some (wM x.2.2) := by decide +kernel
theorem lnkM_2_ok : ∀ x ∈ lnkM_2, (tabC x.1)[x.2.1]? = some (wM x.2.2) := by decide +kernel
theorem lnkM_3_ok : ∀ x ∈ lnkM_3, (tabC x.1)[x.2.1]? = some (wM x.2.2) := by decide +kernel
theorem lnkM_4_ok : ∀ x ∈ lnkM_4, (tabC x.1)[x.2.1]? = some (wM x.2.2) := by decide +kernel
theorem lnkM_5_ok : ∀ x ∈ lnkM_5, (tabC x.1)[x.2.1]? = some (wM x.2.2) := by decide +kernel
theorem lnkM_ok : ∀ x ∈ lnkM, wM x ∈ tables_1 := by
  intro x hx
  obtain ⟨y, hy, rfl⟩ := List.mem_map.mp hx
  have h : (tabC y.1)[y.2.1]? = some (wM y.2.2) := by
    simp only [lnkMi, List.mem_append] at hy
    rcases hy with hy | hy | hy | hy | hy | hy
    · exact lnkM_0_ok _ hy
    · exact lnkM_1_ok _ hy
    · exact lnkM_2_ok _ hy
    · exact lnkM_3_ok _ hy
    · exact lnkM_4_ok _ hy
    · exact lnkM_5_ok _ hy
  exact tabC_in (List.mem_of_getElem? h)
theorem lnkMN_0_ok : ∀ x ∈ lnkMN_0, (tabC x.1)[x.2.1]? = some (wMN x.2.2) := by decide +kernel
theorem lnkMN_ok : ∀ x ∈ lnkMN, wMN x ∈ tables_1 := by
  intro x hx
  obtain ⟨y, hy, rfl⟩ := List.mem_map.mp hx
  have h : (tabC y.1)[y.2.1]? = some (wMN y.2.2) := by
    simp only [lnkMNi, List.mem_append] at hy
    exact lnkMN_0_ok _ hy
  exact tabC_in (List.mem_of_getElem? h)
theorem lnkB_0_ok : ∀ x ∈ lnkB_0, (tabC x.1)[x.2.1]? = some (wB x.2.2) := by decide +kernel
theorem lnkB_ok : ∀ x ∈ lnkB, wB x ∈ tables_1 := by
  intro x hx
  obtain ⟨y, hy, rfl⟩ := List.mem_map.mp hx
  have h : (tabC y.1)[y.2.1]? = some (wB y.2.2) := by
    simp only [lnkBi, List.mem_append] at hy
    exact lnkB_0_ok _ hy
  exact tabC_in (List.mem_of_getElem? h)
theorem lnkL_0_ok : ∀ x ∈ lnkL_0, (tabC x.1)[x.2.1]? = some (wL x.2.2) := by decide +kernel
theorem lnkL_ok : ∀ x ∈ lnkL, wL x ∈ tables_1 := by
  intro x hx
  obtain ⟨y, hy, rfl⟩ := List.mem_map.mp hx
  have h : (tabC y.1)[y.2.1]? = some (wL y.2.2) := by
    simp only [lnkLi, List.mem_append] at hy
    exact lnkL_0_ok _ hy
  exact tabC_in (List.mem_of_getElem? h)
