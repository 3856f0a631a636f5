def wi0 (i : Nat) : (Nat × Nat) × (Nat × Nat) × (Nat × Nat) × (Nat × Nat) := match i with | 0 => ((3, 186), (3, 184), (3, 185), (1, 8)) | 1 => ((2, 218), (2, 216), (2, 217), (1, 8)) | 2 => ((3, 105), (3, 103), (3, 104), (1, 8)) | 3 => ((3, 97), (3, 95), (3, 96), (1, 8)) | 4 => ((4, 27), (4, 25), (4, 26), (1, 8)) | 5 => ((4, 34), (4, 32), (4, 33), (1, 8)) | 6 => ((6, 66), (6, 64), (6, 65), (1, 8)) | 7 => ((5, 21), (5, 19), (5, 20), (1, 8)) | 8 => ((4, 40), (4, 38), (4, 39), (1, 8)) | 9 => ((5, 26), (5, 24), (5, 25), (1, 8)) | 10 => ((5, 31), (5, 30), (0, 21), (1, 8)) | 11 => ((5, 101), (5, 99), (5, 100), (1, 8)) | 12 => ((5, 124), (5, 122), (5, 123), (1, 8)) | 13 => ((5, 154), (5, 152), (5, 153), (1, 8)) | 14 => ((5, 50), (5, 48), (5, 49), (1, 8)) | 15 => ((5, 61), (5, 59), (5, 60), (1, 8)) | 16 => ((4, 215), (4, 213), (4, 214), (1, 8)) | 17 => ((3, 181), (3, 179), (3, 180), (1, 7)) | 18 => ((3, 136), (3, 134), (3, 135), (1, 7)) | 19 => ((3, 140), (3, 138), (3, 139), (1, 7)) | _ => ((0, 0), (0, 0), (0, 0), (0, 0))
def wi1 (i : Nat) : (Nat × Nat) × (Nat × Nat) × (Nat × Nat) × (Nat × Nat) := match i with | 0 => ((3, 115), (3, 113), (3, 114), (1, 7)) | 1 => ((3, 233), (3, 231), (3, 232), (1, 7)) | 2 => ((4, 12), (4, 10), (4, 11), (1, 7)) | 3 => ((5, 6), (5, 4), (5, 5), (1, 7)) | 4 => ((5, 2), (5, 0), (5, 1), (1, 7)) | 5 => ((4, 230), (4, 228), (4, 229), (1, 7)) | 6 => ((5, 149), (5, 147), (5, 148), (1, 7)) | 7 => ((5, 174), (5, 172), (5, 173), (1, 7)) | 8 => ((5, 180), (5, 179), (0, 30), (1, 7)) | 9 => ((5, 184), (5, 183), (0, 0), (1, 7)) | 10 => ((3, 201), (3, 199), (3, 200), (1, 10)) | 11 => ((6, 0), (5, 238), (5, 239), (1, 10)) | 12 => ((6, 95), (6, 93), (6, 94), (1, 10)) | 13 => ((6, 4), (6, 3), (0, 32), (1, 10)) | 14 => ((3, 163), (3, 161), (3, 162), (1, 4)) | 15 => ((3, 167), (3, 165), (3, 166), (1, 4)) | 16 => ((2, 210), (2, 208), (2, 209), (1, 4)) | 17 => ((3, 120), (3, 118), (3, 119), (1, 4)) | 18 => ((5, 91), (5, 90), (0, 23), (1, 4)) | 19 => ((5, 87), (5, 86), (0, 22), (1, 4)) | _ => ((0, 0), (0, 0), (0, 0), (0, 0))
def wi2 (i : Nat) : (Nat × Nat) × (Nat × Nat) × (Nat × Nat) × (Nat × Nat) := match i with | 0 => ((5, 128), (5, 127), (0, 26), (1, 4)) | 1 => ((6, 10), (6, 8), (6, 9), (1, 4)) | 2 => ((5, 17), (5, 15), (5, 16), (1, 4)) | 3 => ((5, 83), (5, 81), (5, 82), (1, 4)) | 4 => ((5, 97), (5, 96), (0, 24), (1, 4)) | 5 => ((5, 119), (5, 118), (0, 25), (1, 4)) | 6 => ((5, 132), (5, 130), (5, 131), (1, 4)) | 7 => ((5, 136), (5, 135), (0, 27), (1, 4)) | 8 => ((5, 140), (5, 139), (0, 28), (1, 4)) | 9 => ((5, 144), (5, 143), (0, 29), (1, 4)) | 10 => ((5, 73), (5, 71), (5, 72), (1, 4)) | 11 => ((3, 196), (3, 194), (3, 195), (1, 6)) | 12 => ((3, 131), (3, 129), (3, 130), (1, 6)) | 13 => ((4, 96), (4, 94), (4, 95), (1, 6)) | 14 => ((4, 142), (4, 140), (4, 141), (1, 6)) | 15 => ((5, 113), (5, 111), (5, 112), (1, 6)) | 16 => ((4, 170), (4, 169), (0, 19), (1, 6)) | 17 => ((4, 137), (4, 135), (4, 136), (1, 6)) | 18 => ((4, 153), (4, 151), (4, 152), (1, 6)) | 19 => ((4, 166), (4, 164), (4, 165), (1, 6)) | _ => ((0, 0), (0, 0), (0, 0), (0, 0))
def wi3 (i : Nat) : (Nat × Nat) × (Nat × Nat) × (Nat × Nat) × (Nat × Nat) := match i with | 0 => ((4, 192), (4, 190), (4, 191), (1, 6)) | 1 => ((4, 197), (4, 195), (4, 196), (1, 6)) | 2 => ((4, 181), (4, 179), (4, 180), (1, 6)) | 3 => ((2, 206), (2, 204), (2, 205), (1, 9)) | 4 => ((3, 93), (3, 92), (0, 13), (1, 9)) | 5 => ((3, 111), (3, 110), (0, 14), (1, 9)) | 6 => ((3, 66), (3, 65), (0, 9), (1, 9)) | 7 => ((3, 77), (3, 76), (0, 10), (1, 9)) | 8 => ((3, 81), (3, 80), (0, 11), (1, 9)) | 9 => ((3, 6), (3, 5), (0, 6), (1, 9)) | 10 => ((3, 86), (3, 85), (0, 12), (1, 9)) | 11 => ((3, 10), (3, 9), (0, 7), (1, 9)) | 12 => ((3, 62), (3, 61), (0, 8), (1, 9)) | 13 => ((2, 223), (2, 222), (0, 3), (1, 9)) | 14 => ((2, 234), (2, 233), (0, 4), (1, 9)) | 15 => ((3, 1), (3, 0), (0, 5), (1, 9)) | 16 => ((3, 191), (3, 189), (3, 190), (1, 5)) | 17 => ((3, 125), (3, 123), (3, 124), (1, 5)) | 18 => ((5, 105), (5, 103), (5, 104), (1, 5)) | 19 => ((4, 73), (4, 71), (4, 72), (1, 5)) | _ => ((0, 0), (0, 0), (0, 0), (0, 0))
def wi4 (i : Nat) : (Nat × Nat) × (Nat × Nat) × (Nat × Nat) × (Nat × Nat) := match i with | 0 => ((4, 77), (4, 75), (4, 76), (1, 5)) | 1 => ((2, 227), (2, 225), (2, 226), (1, 2)) | 2 => ((2, 102), (2, 100), (2, 101), (1, 2)) | 3 => ((2, 214), (2, 212), (2, 213), (1, 2)) | 4 => ((3, 171), (3, 169), (3, 170), (1, 2)) | 5 => ((2, 94), (2, 92), (2, 93), (1, 1)) | 6 => ((2, 98), (2, 97), (0, 0), (1, 1)) | 7 => ((2, 127), (2, 125), (2, 126), (1, 1)) | 8 => ((2, 106), (2, 104), (2, 105), (1, 1)) | 9 => ((2, 110), (2, 108), (2, 109), (1, 1)) | 10 => ((2, 114), (2, 112), (2, 113), (1, 1)) | 11 => ((3, 209), (3, 207), (3, 208), (1, 1)) | 12 => ((4, 1), (3, 239), (4, 0), (1, 1)) | 13 => ((4, 8), (4, 6), (4, 7), (1, 1)) | 14 => ((4, 19), (4, 17), (4, 18), (1, 1)) | 15 => ((4, 47), (4, 45), (4, 46), (1, 1)) | 16 => ((4, 55), (4, 53), (4, 54), (1, 1)) | 17 => ((4, 62), (4, 60), (4, 61), (1, 1)) | 18 => ((4, 69), (4, 67), (4, 68), (1, 1)) | 19 => ((4, 84), (4, 82), (4, 83), (1, 1)) | _ => ((0, 0), (0, 0), (0, 0), (0, 0))
def wi5 (i : Nat) : (Nat × Nat) × (Nat × Nat) × (Nat × Nat) × (Nat × Nat) := match i with | 0 => ((4, 104), (4, 102), (4, 103), (1, 1)) | 1 => ((4, 111), (4, 109), (4, 110), (1, 1)) | 2 => ((4, 119), (4, 117), (4, 118), (1, 1)) | 3 => ((4, 126), (4, 124), (4, 125), (1, 1)) | 4 => ((4, 133), (4, 131), (4, 132), (1, 1)) | 5 => ((4, 149), (4, 147), (4, 148), (1, 1)) | 6 => ((4, 160), (4, 158), (4, 159), (1, 1)) | 7 => ((4, 177), (4, 175), (4, 176), (1, 1)) | 8 => ((4, 188), (4, 186), (4, 187), (1, 1)) | 9 => ((4, 204), (4, 202), (4, 203), (1, 1)) | 10 => ((4, 211), (4, 209), (4, 210), (1, 1)) | 11 => ((4, 222), (4, 220), (4, 221), (1, 1)) | 12 => ((4, 238), (4, 236), (4, 237), (1, 1)) | 13 => ((5, 13), (5, 11), (5, 12), (1, 1)) | 14 => ((5, 39), (5, 37), (5, 38), (1, 1)) | 15 => ((5, 46), (5, 44), (5, 45), (1, 1)) | 16 => ((5, 57), (5, 55), (5, 56), (1, 1)) | 17 => ((5, 69), (5, 67), (5, 68), (1, 1)) | 18 => ((5, 162), (5, 160), (5, 161), (1, 1)) | 19 => ((5, 170), (5, 168), (5, 169), (1, 1)) | _ => ((0, 0), (0, 0), (0, 0), (0, 0))
def wi6 (i : Nat) : (Nat × Nat) × (Nat × Nat) × (Nat × Nat) × (Nat × Nat) := match i with | 0 => ((5, 193), (5, 191), (5, 192), (1, 1)) | 1 => ((5, 203), (5, 201), (5, 202), (1, 1)) | 2 => ((5, 210), (5, 208), (5, 209), (1, 1)) | 3 => ((5, 218), (5, 216), (5, 217), (1, 1)) | 4 => ((5, 222), (5, 221), (0, 31), (1, 1)) | 5 => ((5, 229), (5, 227), (5, 228), (1, 1)) | 6 => ((5, 236), (5, 234), (5, 235), (1, 1)) | 7 => ((6, 17), (6, 15), (6, 16), (1, 1)) | 8 => ((6, 25), (6, 23), (6, 24), (1, 1)) | 9 => ((6, 32), (6, 30), (6, 31), (1, 1)) | 10 => ((6, 39), (6, 37), (6, 38), (1, 1)) | 11 => ((6, 50), (6, 48), (6, 49), (1, 1)) | 12 => ((6, 43), (6, 42), (0, 33), (1, 1)) | 13 => ((6, 62), (6, 60), (6, 61), (1, 1)) | 14 => ((6, 73), (6, 71), (6, 72), (1, 1)) | 15 => ((6, 81), (6, 79), (6, 80), (1, 1)) | 16 => ((6, 90), (6, 88), (6, 89), (1, 1)) | 17 => ((2, 118), (2, 116), (2, 117), (1, 1)) | 18 => ((6, 102), (6, 100), (6, 101), (1, 1)) | 19 => ((6, 116), (6, 114), (6, 115), (1, 1)) | _ => ((0, 0), (0, 0), (0, 0), (0, 0))
def wi7 (i : Nat) : (Nat × Nat) × (Nat × Nat) × (Nat × Nat) × (Nat × Nat) := match i with | 0 => ((6, 109), (6, 108), (0, 34), (1, 1)) | 1 => ((3, 213), (3, 212), (0, 15), (1, 1)) | 2 => ((2, 131), (2, 130), (0, 1), (1, 1)) | 3 => ((4, 23), (4, 22), (0, 16), (1, 1)) | 4 => ((4, 88), (4, 87), (0, 17), (1, 1)) | 5 => ((4, 92), (4, 91), (0, 18), (1, 1)) | 6 => ((4, 226), (4, 225), (0, 20), (1, 1)) | 7 => ((6, 105), (6, 104), (0, 0), (1, 1)) | 8 => ((2, 134), (2, 133), (0, 0), (1, 1)) | 9 => ((3, 143), (3, 142), (0, 0), (1, 1)) | 10 => ((6, 53), (6, 52), (0, 0), (1, 1)) | 11 => ((3, 69), (3, 68), (0, 0), (1, 1)) | 12 => ((3, 73), (3, 72), (0, 0), (1, 1)) | 13 => ((2, 230), (2, 229), (0, 0), (1, 1)) | 14 => ((3, 100), (3, 99), (0, 0), (1, 1)) | 15 => ((2, 237), (2, 236), (0, 0), (1, 1)) | 16 => ((5, 78), (5, 77), (0, 0), (1, 1)) | 17 => ((6, 222), (6, 220), (6, 221), (1, 12)) | 18 => ((7, 5), (7, 4), (0, 0), (1, 12)) | 19 => ((7, 137), (7, 136), (0, 0), (1, 12)) | _ => ((0, 0), (0, 0), (0, 0), (0, 0))
def wi8 (i : Nat) : (Nat × Nat) × (Nat × Nat) × (Nat × Nat) × (Nat × Nat) := match i with | 0 => ((7, 9), (7, 8), (0, 35), (1, 12)) | 1 => ((7, 118), (7, 117), (0, 58), (1, 12)) | 2 => ((6, 226), (6, 224), (6, 225), (1, 12)) | 3 => ((6, 230), (6, 228), (6, 229), (1, 12)) | 4 => ((6, 234), (6, 232), (6, 233), (1, 12)) | 5 => ((6, 238), (6, 236), (6, 237), (1, 12)) | 6 => ((7, 33), (7, 32), (0, 41), (1, 12)) | 7 => ((7, 36), (7, 35), (0, 0), (1, 12)) | 8 => ((7, 39), (7, 38), (0, 0), (1, 12)) | 9 => ((7, 29), (7, 28), (0, 40), (1, 12)) | 10 => ((7, 62), (7, 61), (0, 46), (1, 12)) | 11 => ((7, 58), (7, 57), (0, 45), (1, 12)) | 12 => ((7, 66), (7, 65), (0, 47), (1, 12)) | 13 => ((7, 52), (7, 51), (0, 44), (1, 12)) | 14 => ((7, 48), (7, 47), (0, 43), (1, 12)) | 15 => ((7, 74), (7, 73), (0, 49), (1, 12)) | 16 => ((7, 70), (7, 69), (0, 48), (1, 12)) | 17 => ((7, 82), (7, 81), (0, 51), (1, 12)) | 18 => ((7, 13), (7, 12), (0, 36), (1, 12)) | 19 => ((7, 110), (7, 109), (0, 57), (1, 12)) | _ => ((0, 0), (0, 0), (0, 0), (0, 0))
def wi9 (i : Nat) : (Nat × Nat) × (Nat × Nat) × (Nat × Nat) × (Nat × Nat) := match i with | 0 => ((7, 78), (7, 77), (0, 50), (1, 12)) | 1 => ((7, 25), (7, 24), (0, 39), (1, 12)) | 2 => ((7, 21), (7, 20), (0, 38), (1, 12)) | 3 => ((7, 97), (7, 96), (0, 54), (1, 12)) | 4 => ((7, 93), (7, 92), (0, 53), (1, 12)) | 5 => ((7, 102), (7, 101), (0, 55), (1, 12)) | 6 => ((7, 88), (7, 87), (0, 52), (1, 12)) | 7 => ((7, 43), (7, 42), (0, 42), (1, 12)) | 8 => ((7, 17), (7, 16), (0, 37), (1, 12)) | 9 => ((7, 106), (7, 105), (0, 56), (1, 12)) | 10 => ((7, 2), (7, 0), (7, 1), (1, 12)) | 11 => ((7, 162), (7, 161), (0, 65), (1, 12)) | 12 => ((7, 153), (7, 152), (0, 63), (1, 12)) | 13 => ((7, 158), (7, 157), (0, 64), (1, 12)) | 14 => ((8, 62), (8, 61), (0, 80), (1, 12)) | 15 => ((8, 58), (8, 57), (0, 79), (1, 12)) | 16 => ((7, 134), (7, 133), (0, 60), (1, 12)) | 17 => ((8, 54), (8, 53), (0, 78), (1, 12)) | 18 => ((8, 113), (8, 112), (0, 88), (1, 12)) | 19 => ((8, 125), (8, 124), (0, 91), (1, 12)) | _ => ((0, 0), (0, 0), (0, 0), (0, 0))
def wi10 (i : Nat) : (Nat × Nat) × (Nat × Nat) × (Nat × Nat) × (Nat × Nat) := match i with | 0 => ((8, 158), (8, 157), (0, 99), (1, 12)) | 1 => ((8, 153), (8, 152), (0, 98), (1, 12)) | 2 => ((8, 149), (8, 148), (0, 97), (1, 12)) | 3 => ((8, 141), (8, 140), (0, 95), (1, 12)) | 4 => ((8, 109), (8, 108), (0, 87), (1, 12)) | 5 => ((8, 145), (8, 144), (0, 96), (1, 12)) | 6 => ((8, 121), (8, 120), (0, 90), (1, 12)) | 7 => ((8, 42), (8, 41), (0, 77), (1, 12)) | 8 => ((8, 137), (8, 136), (0, 94), (1, 12)) | 9 => ((8, 133), (8, 132), (0, 93), (1, 12)) | 10 => ((8, 129), (8, 128), (0, 92), (1, 12)) | 11 => ((8, 117), (8, 116), (0, 89), (1, 12)) | 12 => ((8, 105), (8, 104), (0, 86), (1, 12)) | 13 => ((7, 174), (7, 173), (0, 0), (1, 12)) | 14 => ((7, 171), (7, 170), (0, 66), (1, 12)) | 15 => ((8, 101), (8, 100), (0, 0), (1, 12)) | 16 => ((8, 98), (8, 97), (0, 85), (1, 12)) | 17 => ((8, 94), (8, 93), (0, 84), (1, 12)) | 18 => ((7, 122), (7, 121), (0, 59), (1, 12)) | 19 => ((7, 114), (7, 112), (7, 113), (1, 12)) | _ => ((0, 0), (0, 0), (0, 0), (0, 0))
def wi11 (i : Nat) : (Nat × Nat) × (Nat × Nat) × (Nat × Nat) × (Nat × Nat) := match i with | 0 => ((7, 126), (7, 124), (7, 125), (1, 12)) | 1 => ((7, 130), (7, 128), (7, 129), (1, 12)) | 2 => ((7, 149), (7, 148), (0, 62), (1, 12)) | 3 => ((7, 145), (7, 144), (0, 61), (1, 12)) | 4 => ((7, 141), (7, 139), (7, 140), (1, 12)) | 5 => ((7, 167), (7, 165), (7, 166), (1, 12)) | 6 => ((7, 178), (7, 176), (7, 177), (1, 12)) | 7 => ((7, 182), (7, 180), (7, 181), (1, 12)) | 8 => ((7, 190), (7, 189), (0, 67), (1, 12)) | 9 => ((7, 194), (7, 193), (0, 68), (1, 12)) | 10 => ((7, 186), (7, 184), (7, 185), (1, 12)) | 11 => ((7, 206), (7, 205), (0, 70), (1, 12)) | 12 => ((7, 210), (7, 209), (0, 71), (1, 12)) | 13 => ((7, 202), (7, 201), (0, 69), (1, 12)) | 14 => ((8, 2), (8, 1), (0, 74), (1, 12)) | 15 => ((7, 214), (7, 213), (0, 72), (1, 12)) | 16 => ((7, 222), (7, 221), (0, 73), (1, 12)) | 17 => ((7, 198), (7, 196), (7, 197), (1, 12)) | 18 => ((7, 218), (7, 216), (7, 217), (1, 12)) | 19 => ((7, 226), (7, 224), (7, 225), (1, 12)) | _ => ((0, 0), (0, 0), (0, 0), (0, 0))
def wi12 (i : Nat) : (Nat × Nat) × (Nat × Nat) × (Nat × Nat) × (Nat × Nat) := match i with | 0 => ((7, 230), (7, 228), (7, 229), (1, 12)) | 1 => ((7, 234), (7, 232), (7, 233), (1, 12)) | 2 => ((8, 6), (8, 5), (0, 75), (1, 12)) | 3 => ((7, 238), (7, 236), (7, 237), (1, 12)) | 4 => ((8, 10), (8, 8), (8, 9), (1, 12)) | 5 => ((8, 14), (8, 12), (8, 13), (1, 12)) | 6 => ((8, 26), (8, 25), (0, 76), (1, 12)) | 7 => ((8, 18), (8, 16), (8, 17), (1, 12)) | 8 => ((8, 22), (8, 20), (8, 21), (1, 12)) | 9 => ((8, 30), (8, 28), (8, 29), (1, 12)) | 10 => ((8, 34), (8, 32), (8, 33), (1, 12)) | 11 => ((8, 38), (8, 36), (8, 37), (1, 12)) | 12 => ((8, 46), (8, 44), (8, 45), (1, 12)) | 13 => ((8, 50), (8, 48), (8, 49), (1, 12)) | 14 => ((8, 66), (8, 64), (8, 65), (1, 12)) | 15 => ((8, 74), (8, 73), (0, 81), (1, 12)) | 16 => ((8, 70), (8, 68), (8, 69), (1, 12)) | 17 => ((8, 78), (8, 76), (8, 77), (1, 12)) | 18 => ((8, 90), (8, 89), (0, 83), (1, 12)) | 19 => ((8, 162), (8, 161), (0, 100), (1, 12)) | _ => ((0, 0), (0, 0), (0, 0), (0, 0))
def wi13 (i : Nat) : (Nat × Nat) × (Nat × Nat) × (Nat × Nat) × (Nat × Nat) := match i with | 0 => ((8, 86), (8, 85), (0, 82), (1, 12)) | 1 => ((8, 82), (8, 80), (8, 81), (1, 12)) | 2 => ((8, 166), (8, 164), (8, 165), (1, 12)) | 3 => ((8, 174), (8, 173), (0, 101), (1, 12)) | 4 => ((8, 170), (8, 168), (8, 169), (1, 12)) | 5 => ((8, 178), (8, 176), (8, 177), (1, 12)) | 6 => ((8, 186), (8, 185), (0, 102), (1, 12)) | 7 => ((8, 182), (8, 180), (8, 181), (1, 12)) | 8 => ((8, 190), (8, 188), (8, 189), (1, 12)) | 9 => ((8, 198), (8, 197), (0, 103), (1, 12)) | 10 => ((8, 194), (8, 192), (8, 193), (1, 12)) | 11 => ((8, 202), (8, 200), (8, 201), (1, 12)) | 12 => ((8, 214), (8, 213), (0, 105), (1, 12)) | 13 => ((9, 22), (9, 21), (0, 108), (1, 12)) | 14 => ((8, 210), (8, 209), (0, 104), (1, 12)) | 15 => ((8, 206), (8, 204), (8, 205), (1, 12)) | 16 => ((8, 218), (8, 216), (8, 217), (1, 12)) | 17 => ((8, 222), (8, 220), (8, 221), (1, 12)) | 18 => ((8, 226), (8, 224), (8, 225), (1, 12)) | 19 => ((8, 234), (8, 233), (0, 106), (1, 12)) | _ => ((0, 0), (0, 0), (0, 0), (0, 0))
def wi14 (i : Nat) : (Nat × Nat) × (Nat × Nat) × (Nat × Nat) × (Nat × Nat) := match i with | 0 => ((8, 230), (8, 228), (8, 229), (1, 12)) | 1 => ((9, 2), (9, 1), (0, 107), (1, 12)) | 2 => ((8, 238), (8, 236), (8, 237), (1, 12)) | 3 => ((9, 6), (9, 4), (9, 5), (1, 12)) | 4 => ((9, 10), (9, 8), (9, 9), (1, 12)) | 5 => ((9, 14), (9, 12), (9, 13), (1, 12)) | 6 => ((9, 18), (9, 16), (9, 17), (1, 12)) | 7 => ((9, 26), (9, 24), (9, 25), (1, 12)) | 8 => ((9, 30), (9, 28), (9, 29), (1, 12)) | 9 => ((9, 34), (9, 32), (9, 33), (1, 12)) | _ => ((0, 0), (0, 0), (0, 0), (0, 0))
def wis (μ : Nat) : (Nat × Nat) × (Nat × Nat) × (Nat × Nat) × (Nat × Nat) := match μ / 20 with | 0 => wi0 (μ % 20) | 1 => wi1 (μ % 20) | 2 => wi2 (μ % 20) | 3 => wi3 (μ % 20) | 4 => wi4 (μ % 20) | 5 => wi5 (μ % 20) | 6 => wi6 (μ % 20) | 7 => wi7 (μ % 20) | 8 => wi8 (μ % 20) | 9 => wi9 (μ % 20) | 10 => wi10 (μ % 20) | 11 => wi11 (μ % 20) | 12 => wi12 (μ % 20) | 13 => wi13 (μ % 20) | 14 => wi14 (μ % 20) | _ => ((0, 0), (0, 0), (0, 0), (0, 0))
def tabS (j : Nat) : List Jvm.Cond := if j = 0 then k2_sels lw_privs else tabC j
def okD2 (μ : Nat) : Bool := decide ((tabC (wis μ).1.1)[(wis μ).1.2]? = some (.code (nameOf μ) (bytesOf μ) (maxOf μ) (retOf μ))) && decide ((tabC (wis μ).2.2.2.1)[(wis μ).2.2.2.2]? = some (.initialized (clsN (clOf μ))))
  && (if (mus μ).2.1 = true then decide ((tabC (wis μ).2.1.1)[(wis μ).2.1.2]? = some (.static (nameOf μ))) else (decide ((tabC (wis μ).2.1.1)[(wis μ).2.1.2]? = some (.instanceMethod (nameOf μ))) && decide ((tabS (wis μ).2.2.1.1)[(wis μ).2.2.1.2]? = some (.selects (clsN (clOf μ)) (nameOf μ) (nameOf μ)))))
def okB (e : EN) : Bool := match e.2.1 with
  | .invokevirtual _ => decide (1000 ≤ e.2.2.2.1) || (decide (e.2.2.2.2.1 = (mus e.2.2.2.1).2.2 + 1 + 16 * clOf e.2.2.2.1) && !(mus e.2.2.2.1).2.1 && decide ((mus e.2.2.2.1).2.2 < 15))
  | .invokestatic _ => decide (1000 ≤ e.2.2.2.1) || (decide (e.2.2.2.2.1 = (mus e.2.2.2.1).2.2) && (mus e.2.2.2.1).2.1)
  | _ => true
def okN (μ : Nat) : Bool := okD2 μ && (codeOf μ).all okB
theorem okN_0 : okN 0 = true := by decide +kernel
theorem okN_1 : okN 1 = true := by decide +kernel
theorem okN_2 : okN 2 = true := by decide +kernel
theorem okN_3 : okN 3 = true := by decide +kernel
theorem okN_4 : okN 4 = true := by decide +kernel
theorem okN_5 : okN 5 = true := by decide +kernel
theorem okN_6 : okN 6 = true := by decide +kernel
theorem okN_7 : okN 7 = true := by decide +kernel
theorem okN_8 : okN 8 = true := by decide +kernel
theorem okN_9 : okN 9 = true := by decide +kernel
theorem okN_10 : okN 10 = true := by decide +kernel
theorem okN_11 : okN 11 = true := by decide +kernel
theorem okN_12 : okN 12 = true := by decide +kernel
theorem okN_13 : okN 13 = true := by decide +kernel
theorem okN_14 : okN 14 = true := by decide +kernel
theorem okN_15 : okN 15 = true := by decide +kernel
theorem okN_16 : okN 16 = true := by decide +kernel
theorem okN_17 : okN 17 = true := by decide +kernel
theorem okN_18 : okN 18 = true := by decide +kernel
theorem okN_19 : okN 19 = true := by decide +kernel
theorem okN_20 : okN 20 = true := by decide +kernel
theorem okN_21 : okN 21 = true := by decide +kernel
theorem okN_22 : okN 22 = true := by decide +kernel
theorem okN_23 : okN 23 = true := by decide +kernel
theorem okN_24 : okN 24 = true := by decide +kernel
theorem okN_25 : okN 25 = true := by decide +kernel
theorem okN_26 : okN 26 = true := by decide +kernel
theorem okN_27 : okN 27 = true := by decide +kernel
theorem okN_28 : okN 28 = true := by decide +kernel
theorem okN_29 : okN 29 = true := by decide +kernel
theorem okN_30 : okN 30 = true := by decide +kernel
theorem okN_31 : okN 31 = true := by decide +kernel
theorem okN_32 : okN 32 = true := by decide +kernel
theorem okN_33 : okN 33 = true := by decide +kernel
theorem okN_34 : okN 34 = true := by decide +kernel
theorem okN_35 : okN 35 = true := by decide +kernel
theorem okN_36 : okN 36 = true := by decide +kernel
theorem okN_37 : okN 37 = true := by decide +kernel
theorem okN_38 : okN 38 = true := by decide +kernel
theorem okN_39 : okN 39 = true := by decide +kernel
theorem okN_40 : okN 40 = true := by decide +kernel
theorem okN_41 : okN 41 = true := by decide +kernel
theorem okN_42 : okN 42 = true := by decide +kernel
theorem okN_43 : okN 43 = true := by decide +kernel
theorem okN_44 : okN 44 = true := by decide +kernel
theorem okN_45 : okN 45 = true := by decide +kernel
theorem okN_46 : okN 46 = true := by decide +kernel
theorem okN_47 : okN 47 = true := by decide +kernel
theorem okN_48 : okN 48 = true := by decide +kernel
theorem okN_49 : okN 49 = true := by decide +kernel
theorem okN_50 : okN 50 = true := by decide +kernel
theorem okN_51 : okN 51 = true := by decide +kernel
theorem okN_52 : okN 52 = true := by decide +kernel
theorem okN_53 : okN 53 = true := by decide +kernel
theorem okN_54 : okN 54 = true := by decide +kernel
theorem okN_55 : okN 55 = true := by decide +kernel
theorem okN_56 : okN 56 = true := by decide +kernel
theorem okN_57 : okN 57 = true := by decide +kernel
theorem okN_58 : okN 58 = true := by decide +kernel
theorem okN_59 : okN 59 = true := by decide +kernel
theorem okN_60 : okN 60 = true := by decide +kernel
theorem okN_61 : okN 61 = true := by decide +kernel
theorem okN_62 : okN 62 = true := by decide +kernel
theorem okN_63 : okN 63 = true := by decide +kernel
theorem okN_64 : okN 64 = true := by decide +kernel
theorem okN_65 : okN 65 = true := by decide +kernel
theorem okN_66 : okN 66 = true := by decide +kernel
theorem okN_67 : okN 67 = true := by decide +kernel
theorem okN_68 : okN 68 = true := by decide +kernel
theorem okN_69 : okN 69 = true := by decide +kernel
theorem okN_70 : okN 70 = true := by decide +kernel
theorem okN_71 : okN 71 = true := by decide +kernel
theorem okN_72 : okN 72 = true := by decide +kernel
theorem okN_73 : okN 73 = true := by decide +kernel
theorem okN_74 : okN 74 = true := by decide +kernel
theorem okN_75 : okN 75 = true := by decide +kernel
theorem okN_76 : okN 76 = true := by decide +kernel
theorem okN_77 : okN 77 = true := by decide +kernel
theorem okN_78 : okN 78 = true := by decide +kernel
theorem okN_79 : okN 79 = true := by decide +kernel
theorem okN_80 : okN 80 = true := by decide +kernel
theorem okN_81 : okN 81 = true := by decide +kernel
theorem okN_82 : okN 82 = true := by decide +kernel
theorem okN_83 : okN 83 = true := by decide +kernel
theorem okN_84 : okN 84 = true := by decide +kernel
theorem okN_85 : okN 85 = true := by decide +kernel
theorem okN_86 : okN 86 = true := by decide +kernel
theorem okN_87 : okN 87 = true := by decide +kernel
theorem okN_88 : okN 88 = true := by decide +kernel
theorem okN_89 : okN 89 = true := by decide +kernel
theorem okN_90 : okN 90 = true := by decide +kernel
theorem okN_91 : okN 91 = true := by decide +kernel
theorem okN_92 : okN 92 = true := by decide +kernel
theorem okN_93 : okN 93 = true := by decide +kernel
theorem okN_94 : okN 94 = true := by decide +kernel
theorem okN_95 : okN 95 = true := by decide +kernel
theorem okN_96 : okN 96 = true := by decide +kernel
theorem okN_97 : okN 97 = true := by decide +kernel
theorem okN_98 : okN 98 = true := by decide +kernel
theorem okN_99 : okN 99 = true := by decide +kernel
theorem okN_100 : okN 100 = true := by decide +kernel
theorem okN_101 : okN 101 = true := by decide +kernel
theorem okN_102 : okN 102 = true := by decide +kernel
theorem okN_103 : okN 103 = true := by decide +kernel
theorem okN_104 : okN 104 = true := by decide +kernel
theorem okN_105 : okN 105 = true := by decide +kernel
theorem okN_106 : okN 106 = true := by decide +kernel
theorem okN_107 : okN 107 = true := by decide +kernel
theorem okN_108 : okN 108 = true := by decide +kernel
theorem okN_109 : okN 109 = true := by decide +kernel
theorem okN_110 : okN 110 = true := by decide +kernel
theorem okN_111 : okN 111 = true := by decide +kernel
theorem okN_112 : okN 112 = true := by decide +kernel
theorem okN_113 : okN 113 = true := by decide +kernel
theorem okN_114 : okN 114 = true := by decide +kernel
theorem okN_115 : okN 115 = true := by decide +kernel
theorem okN_116 : okN 116 = true := by decide +kernel
theorem okN_117 : okN 117 = true := by decide +kernel
theorem okN_118 : okN 118 = true := by decide +kernel
theorem okN_119 : okN 119 = true := by decide +kernel
theorem okN_120 : okN 120 = true := by decide +kernel
theorem okN_121 : okN 121 = true := by decide +kernel
theorem okN_122 : okN 122 = true := by decide +kernel
theorem okN_123 : okN 123 = true := by decide +kernel
theorem okN_124 : okN 124 = true := by decide +kernel
theorem okN_125 : okN 125 = true := by decide +kernel
theorem okN_126 : okN 126 = true := by decide +kernel
theorem okN_127 : okN 127 = true := by decide +kernel
theorem okN_128 : okN 128 = true := by decide +kernel
theorem okN_129 : okN 129 = true := by decide +kernel
theorem okN_130 : okN 130 = true := by decide +kernel
theorem okN_131 : okN 131 = true := by decide +kernel
theorem okN_132 : okN 132 = true := by decide +kernel
theorem okN_133 : okN 133 = true := by decide +kernel
theorem okN_134 : okN 134 = true := by decide +kernel
theorem okN_135 : okN 135 = true := by decide +kernel
theorem okN_136 : okN 136 = true := by decide +kernel
theorem okN_137 : okN 137 = true := by decide +kernel
theorem okN_138 : okN 138 = true := by decide +kernel
theorem okN_139 : okN 139 = true := by decide +kernel
theorem okN_140 : okN 140 = true := by decide +kernel
theorem okN_141 : okN 141 = true := by decide +kernel
theorem okN_142 : okN 142 = true := by decide +kernel
theorem okN_143 : okN 143 = true := by decide +kernel
theorem okN_144 : okN 144 = true := by decide +kernel
theorem okN_145 : okN 145 = true := by decide +kernel
theorem okN_146 : okN 146 = true := by decide +kernel
theorem okN_147 : okN 147 = true := by decide +kernel
theorem okN_148 : okN 148 = true := by decide +kernel
theorem okN_149 : okN 149 = true := by decide +kernel
theorem okN_150 : okN 150 = true := by decide +kernel
theorem okN_151 : okN 151 = true := by decide +kernel
theorem okN_152 : okN 152 = true := by decide +kernel
theorem okN_153 : okN 153 = true := by decide +kernel
theorem okN_154 : okN 154 = true := by decide +kernel
theorem okN_155 : okN 155 = true := by decide +kernel
theorem okN_156 : okN 156 = true := by decide +kernel
theorem okN_157 : okN 157 = true := by decide +kernel
theorem okN_158 : okN 158 = true := by decide +kernel
theorem okN_159 : okN 159 = true := by decide +kernel
theorem okN_160 : okN 160 = true := by decide +kernel
theorem okN_161 : okN 161 = true := by decide +kernel
theorem okN_162 : okN 162 = true := by decide +kernel
theorem okN_163 : okN 163 = true := by decide +kernel
theorem okN_164 : okN 164 = true := by decide +kernel
theorem okN_165 : okN 165 = true := by decide +kernel
theorem okN_166 : okN 166 = true := by decide +kernel
theorem okN_167 : okN 167 = true := by decide +kernel
theorem okN_168 : okN 168 = true := by decide +kernel
theorem okN_169 : okN 169 = true := by decide +kernel
theorem okN_170 : okN 170 = true := by decide +kernel
theorem okN_171 : okN 171 = true := by decide +kernel
theorem okN_172 : okN 172 = true := by decide +kernel
theorem okN_173 : okN 173 = true := by decide +kernel
theorem okN_174 : okN 174 = true := by decide +kernel
theorem okN_175 : okN 175 = true := by decide +kernel
theorem okN_176 : okN 176 = true := by decide +kernel
theorem okN_177 : okN 177 = true := by decide +kernel
theorem okN_178 : okN 178 = true := by decide +kernel
theorem okN_179 : okN 179 = true := by decide +kernel
theorem okN_180 : okN 180 = true := by decide +kernel
theorem okN_181 : okN 181 = true := by decide +kernel
theorem okN_182 : okN 182 = true := by decide +kernel
theorem okN_183 : okN 183 = true := by decide +kernel
theorem okN_184 : okN 184 = true := by decide +kernel
theorem okN_185 : okN 185 = true := by decide +kernel
theorem okN_186 : okN 186 = true := by decide +kernel
theorem okN_187 : okN 187 = true := by decide +kernel
theorem okN_188 : okN 188 = true := by decide +kernel
theorem okN_189 : okN 189 = true := by decide +kernel
theorem okN_190 : okN 190 = true := by decide +kernel
theorem okN_191 : okN 191 = true := by decide +kernel
theorem okN_192 : okN 192 = true := by decide +kernel
theorem okN_193 : okN 193 = true := by decide +kernel
theorem okN_194 : okN 194 = true := by decide +kernel
theorem okN_195 : okN 195 = true := by decide +kernel
theorem okN_196 : okN 196 = true := by decide +kernel
theorem okN_197 : okN 197 = true := by decide +kernel
theorem okN_198 : okN 198 = true := by decide +kernel
theorem okN_199 : okN 199 = true := by decide +kernel
theorem okN_200 : okN 200 = true := by decide +kernel
theorem okN_201 : okN 201 = true := by decide +kernel
theorem okN_202 : okN 202 = true := by decide +kernel
theorem okN_203 : okN 203 = true := by decide +kernel
theorem okN_204 : okN 204 = true := by decide +kernel
theorem okN_205 : okN 205 = true := by decide +kernel
theorem okN_206 : okN 206 = true := by decide +kernel
theorem okN_207 : okN 207 = true := by decide +kernel
theorem okN_208 : okN 208 = true := by decide +kernel
theorem okN_209 : okN 209 = true := by decide +kernel
theorem okN_210 : okN 210 = true := by decide +kernel
theorem okN_211 : okN 211 = true := by decide +kernel
theorem okN_212 : okN 212 = true := by decide +kernel
theorem okN_213 : okN 213 = true := by decide +kernel
theorem okN_214 : okN 214 = true := by decide +kernel
theorem okN_215 : okN 215 = true := by decide +kernel
theorem okN_216 : okN 216 = true := by decide +kernel
theorem okN_217 : okN 217 = true := by decide +kernel
theorem okN_218 : okN 218 = true := by decide +kernel
theorem okN_219 : okN 219 = true := by decide +kernel
theorem okN_220 : okN 220 = true := by decide +kernel
theorem okN_221 : okN 221 = true := by decide +kernel
theorem okN_222 : okN 222 = true := by decide +kernel
theorem okN_223 : okN 223 = true := by decide +kernel
theorem okN_224 : okN 224 = true := by decide +kernel
theorem okN_225 : okN 225 = true := by decide +kernel
theorem okN_226 : okN 226 = true := by decide +kernel
theorem okN_227 : okN 227 = true := by decide +kernel
theorem okN_228 : okN 228 = true := by decide +kernel
theorem okN_229 : okN 229 = true := by decide +kernel
theorem okN_230 : okN 230 = true := by decide +kernel
theorem okN_231 : okN 231 = true := by decide +kernel
theorem okN_232 : okN 232 = true := by decide +kernel
theorem okN_233 : okN 233 = true := by decide +kernel
theorem okN_234 : okN 234 = true := by decide +kernel
theorem okN_235 : okN 235 = true := by decide +kernel
theorem okN_236 : okN 236 = true := by decide +kernel
theorem okN_237 : okN 237 = true := by decide +kernel
theorem okN_238 : okN 238 = true := by decide +kernel
theorem okN_239 : okN 239 = true := by decide +kernel
theorem okN_240 : okN 240 = true := by decide +kernel
theorem okN_241 : okN 241 = true := by decide +kernel
theorem okN_242 : okN 242 = true := by decide +kernel
theorem okN_243 : okN 243 = true := by decide +kernel
theorem okN_244 : okN 244 = true := by decide +kernel
theorem okN_245 : okN 245 = true := by decide +kernel
theorem okN_246 : okN 246 = true := by decide +kernel
theorem okN_247 : okN 247 = true := by decide +kernel
theorem okN_248 : okN 248 = true := by decide +kernel
theorem okN_249 : okN 249 = true := by decide +kernel
theorem okN_250 : okN 250 = true := by decide +kernel
theorem okN_251 : okN 251 = true := by decide +kernel
theorem okN_252 : okN 252 = true := by decide +kernel
theorem okN_253 : okN 253 = true := by decide +kernel
theorem okN_254 : okN 254 = true := by decide +kernel
theorem okN_255 : okN 255 = true := by decide +kernel
theorem okN_256 : okN 256 = true := by decide +kernel
theorem okN_257 : okN 257 = true := by decide +kernel
theorem okN_258 : okN 258 = true := by decide +kernel
theorem okN_259 : okN 259 = true := by decide +kernel
theorem okN_260 : okN 260 = true := by decide +kernel
theorem okN_261 : okN 261 = true := by decide +kernel
theorem okN_262 : okN 262 = true := by decide +kernel
theorem okN_263 : okN 263 = true := by decide +kernel
theorem okN_264 : okN 264 = true := by decide +kernel
theorem okN_265 : okN 265 = true := by decide +kernel
theorem okN_266 : okN 266 = true := by decide +kernel
theorem okN_267 : okN 267 = true := by decide +kernel
theorem okN_268 : okN 268 = true := by decide +kernel
theorem okN_269 : okN 269 = true := by decide +kernel
theorem okN_270 : okN 270 = true := by decide +kernel
theorem okN_271 : okN 271 = true := by decide +kernel
theorem okN_272 : okN 272 = true := by decide +kernel
theorem okN_273 : okN 273 = true := by decide +kernel
theorem okN_274 : okN 274 = true := by decide +kernel
theorem okN_275 : okN 275 = true := by decide +kernel
theorem okN_276 : okN 276 = true := by decide +kernel
theorem okN_277 : okN 277 = true := by decide +kernel
theorem okN_278 : okN 278 = true := by decide +kernel
theorem okN_279 : okN 279 = true := by decide +kernel
theorem okN_280 : okN 280 = true := by decide +kernel
theorem okN_281 : okN 281 = true := by decide +kernel
theorem okN_282 : okN 282 = true := by decide +kernel
theorem okN_283 : okN 283 = true := by decide +kernel
theorem okN_284 : okN 284 = true := by decide +kernel
theorem okN_285 : okN 285 = true := by decide +kernel
theorem okN_286 : okN 286 = true := by decide +kernel
theorem okN_287 : okN 287 = true := by decide +kernel
theorem okN_288 : okN 288 = true := by decide +kernel
theorem okN_289 : okN 289 = true := by decide +kernel
theorem okNs_0 : ∀ i, i < 20 → okN (0 + i) = true := fun i h => match i, h with
  | 0, _ => okN_0
  | 1, _ => okN_1
  | 2, _ => okN_2
  | 3, _ => okN_3
  | 4, _ => okN_4
  | 5, _ => okN_5
  | 6, _ => okN_6
  | 7, _ => okN_7
  | 8, _ => okN_8
  | 9, _ => okN_9
  | 10, _ => okN_10
  | 11, _ => okN_11
  | 12, _ => okN_12
  | 13, _ => okN_13
  | 14, _ => okN_14
  | 15, _ => okN_15
  | 16, _ => okN_16
  | 17, _ => okN_17
  | 18, _ => okN_18
  | 19, _ => okN_19
  | k + 20, h => absurd h (by omega)
theorem okNs_1 : ∀ i, i < 20 → okN (20 + i) = true := fun i h => match i, h with
  | 0, _ => okN_20
  | 1, _ => okN_21
  | 2, _ => okN_22
  | 3, _ => okN_23
  | 4, _ => okN_24
  | 5, _ => okN_25
  | 6, _ => okN_26
  | 7, _ => okN_27
  | 8, _ => okN_28
  | 9, _ => okN_29
  | 10, _ => okN_30
  | 11, _ => okN_31
  | 12, _ => okN_32
  | 13, _ => okN_33
  | 14, _ => okN_34
  | 15, _ => okN_35
  | 16, _ => okN_36
  | 17, _ => okN_37
  | 18, _ => okN_38
  | 19, _ => okN_39
  | k + 20, h => absurd h (by omega)
theorem okNs_2 : ∀ i, i < 20 → okN (40 + i) = true := fun i h => match i, h with
  | 0, _ => okN_40
  | 1, _ => okN_41
  | 2, _ => okN_42
  | 3, _ => okN_43
  | 4, _ => okN_44
  | 5, _ => okN_45
  | 6, _ => okN_46
  | 7, _ => okN_47
  | 8, _ => okN_48
  | 9, _ => okN_49
  | 10, _ => okN_50
  | 11, _ => okN_51
  | 12, _ => okN_52
  | 13, _ => okN_53
  | 14, _ => okN_54
  | 15, _ => okN_55
  | 16, _ => okN_56
  | 17, _ => okN_57
  | 18, _ => okN_58
  | 19, _ => okN_59
  | k + 20, h => absurd h (by omega)
theorem okNs_3 : ∀ i, i < 20 → okN (60 + i) = true := fun i h => match i, h with
  | 0, _ => okN_60
  | 1, _ => okN_61
  | 2, _ => okN_62
  | 3, _ => okN_63
  | 4, _ => okN_64
  | 5, _ => okN_65
  | 6, _ => okN_66
  | 7, _ => okN_67
  | 8, _ => okN_68
  | 9, _ => okN_69
  | 10, _ => okN_70
  | 11, _ => okN_71
  | 12, _ => okN_72
  | 13, _ => okN_73
  | 14, _ => okN_74
  | 15, _ => okN_75
  | 16, _ => okN_76
  | 17, _ => okN_77
  | 18, _ => okN_78
  | 19, _ => okN_79
  | k + 20, h => absurd h (by omega)
theorem okNs_4 : ∀ i, i < 20 → okN (80 + i) = true := fun i h => match i, h with
  | 0, _ => okN_80
  | 1, _ => okN_81
  | 2, _ => okN_82
  | 3, _ => okN_83
  | 4, _ => okN_84
  | 5, _ => okN_85
  | 6, _ => okN_86
  | 7, _ => okN_87
  | 8, _ => okN_88
  | 9, _ => okN_89
  | 10, _ => okN_90
  | 11, _ => okN_91
  | 12, _ => okN_92
  | 13, _ => okN_93
  | 14, _ => okN_94
  | 15, _ => okN_95
  | 16, _ => okN_96
  | 17, _ => okN_97
  | 18, _ => okN_98
  | 19, _ => okN_99
  | k + 20, h => absurd h (by omega)
theorem okNs_5 : ∀ i, i < 20 → okN (100 + i) = true := fun i h => match i, h with
  | 0, _ => okN_100
  | 1, _ => okN_101
  | 2, _ => okN_102
  | 3, _ => okN_103
  | 4, _ => okN_104
  | 5, _ => okN_105
  | 6, _ => okN_106
  | 7, _ => okN_107
  | 8, _ => okN_108
  | 9, _ => okN_109
  | 10, _ => okN_110
  | 11, _ => okN_111
  | 12, _ => okN_112
  | 13, _ => okN_113
  | 14, _ => okN_114
  | 15, _ => okN_115
  | 16, _ => okN_116
  | 17, _ => okN_117
  | 18, _ => okN_118
  | 19, _ => okN_119
  | k + 20, h => absurd h (by omega)
theorem okNs_6 : ∀ i, i < 20 → okN (120 + i) = true := fun i h => match i, h with
  | 0, _ => okN_120
  | 1, _ => okN_121
  | 2, _ => okN_122
  | 3, _ => okN_123
  | 4, _ => okN_124
  | 5, _ => okN_125
  | 6, _ => okN_126
  | 7, _ => okN_127
  | 8, _ => okN_128
  | 9, _ => okN_129
  | 10, _ => okN_130
  | 11, _ => okN_131
  | 12, _ => okN_132
  | 13, _ => okN_133
  | 14, _ => okN_134
  | 15, _ => okN_135
  | 16, _ => okN_136
  | 17, _ => okN_137
  | 18, _ => okN_138
  | 19, _ => okN_139
  | k + 20, h => absurd h (by omega)
theorem okNs_7 : ∀ i, i < 20 → okN (140 + i) = true := fun i h => match i, h with
  | 0, _ => okN_140
  | 1, _ => okN_141
  | 2, _ => okN_142
  | 3, _ => okN_143
  | 4, _ => okN_144
  | 5, _ => okN_145
  | 6, _ => okN_146
  | 7, _ => okN_147
  | 8, _ => okN_148
  | 9, _ => okN_149
  | 10, _ => okN_150
  | 11, _ => okN_151
  | 12, _ => okN_152
  | 13, _ => okN_153
  | 14, _ => okN_154
  | 15, _ => okN_155
  | 16, _ => okN_156
  | 17, _ => okN_157
  | 18, _ => okN_158
  | 19, _ => okN_159
  | k + 20, h => absurd h (by omega)
theorem okNs_8 : ∀ i, i < 20 → okN (160 + i) = true := fun i h => match i, h with
  | 0, _ => okN_160
  | 1, _ => okN_161
  | 2, _ => okN_162
  | 3, _ => okN_163
  | 4, _ => okN_164
  | 5, _ => okN_165
  | 6, _ => okN_166
  | 7, _ => okN_167
  | 8, _ => okN_168
  | 9, _ => okN_169
  | 10, _ => okN_170
  | 11, _ => okN_171
  | 12, _ => okN_172
  | 13, _ => okN_173
  | 14, _ => okN_174
  | 15, _ => okN_175
  | 16, _ => okN_176
  | 17, _ => okN_177
  | 18, _ => okN_178
  | 19, _ => okN_179
  | k + 20, h => absurd h (by omega)
theorem okNs_9 : ∀ i, i < 20 → okN (180 + i) = true := fun i h => match i, h with
  | 0, _ => okN_180
  | 1, _ => okN_181
  | 2, _ => okN_182
  | 3, _ => okN_183
  | 4, _ => okN_184
  | 5, _ => okN_185
  | 6, _ => okN_186
  | 7, _ => okN_187
  | 8, _ => okN_188
  | 9, _ => okN_189
  | 10, _ => okN_190
  | 11, _ => okN_191
  | 12, _ => okN_192
  | 13, _ => okN_193
  | 14, _ => okN_194
  | 15, _ => okN_195
  | 16, _ => okN_196
  | 17, _ => okN_197
  | 18, _ => okN_198
  | 19, _ => okN_199
  | k + 20, h => absurd h (by omega)
theorem okNs_10 : ∀ i, i < 20 → okN (200 + i) = true := fun i h => match i, h with
  | 0, _ => okN_200
  | 1, _ => okN_201
  | 2, _ => okN_202
  | 3, _ => okN_203
  | 4, _ => okN_204
  | 5, _ => okN_205
  | 6, _ => okN_206
  | 7, _ => okN_207
  | 8, _ => okN_208
  | 9, _ => okN_209
  | 10, _ => okN_210
  | 11, _ => okN_211
  | 12, _ => okN_212
  | 13, _ => okN_213
  | 14, _ => okN_214
  | 15, _ => okN_215
  | 16, _ => okN_216
  | 17, _ => okN_217
  | 18, _ => okN_218
  | 19, _ => okN_219
  | k + 20, h => absurd h (by omega)
theorem okNs_11 : ∀ i, i < 20 → okN (220 + i) = true := fun i h => match i, h with
  | 0, _ => okN_220
  | 1, _ => okN_221
  | 2, _ => okN_222
  | 3, _ => okN_223
  | 4, _ => okN_224
  | 5, _ => okN_225
  | 6, _ => okN_226
  | 7, _ => okN_227
  | 8, _ => okN_228
  | 9, _ => okN_229
  | 10, _ => okN_230
  | 11, _ => okN_231
  | 12, _ => okN_232
  | 13, _ => okN_233
  | 14, _ => okN_234
  | 15, _ => okN_235
  | 16, _ => okN_236
  | 17, _ => okN_237
  | 18, _ => okN_238
  | 19, _ => okN_239
  | k + 20, h => absurd h (by omega)
theorem okNs_12 : ∀ i, i < 20 → okN (240 + i) = true := fun i h => match i, h with
  | 0, _ => okN_240
  | 1, _ => okN_241
  | 2, _ => okN_242
  | 3, _ => okN_243
  | 4, _ => okN_244
  | 5, _ => okN_245
  | 6, _ => okN_246
  | 7, _ => okN_247
  | 8, _ => okN_248
  | 9, _ => okN_249
  | 10, _ => okN_250
  | 11, _ => okN_251
  | 12, _ => okN_252
  | 13, _ => okN_253
  | 14, _ => okN_254
  | 15, _ => okN_255
  | 16, _ => okN_256
  | 17, _ => okN_257
  | 18, _ => okN_258
  | 19, _ => okN_259
  | k + 20, h => absurd h (by omega)
theorem okNs_13 : ∀ i, i < 20 → okN (260 + i) = true := fun i h => match i, h with
  | 0, _ => okN_260
  | 1, _ => okN_261
  | 2, _ => okN_262
  | 3, _ => okN_263
  | 4, _ => okN_264
  | 5, _ => okN_265
  | 6, _ => okN_266
  | 7, _ => okN_267
  | 8, _ => okN_268
  | 9, _ => okN_269
  | 10, _ => okN_270
  | 11, _ => okN_271
  | 12, _ => okN_272
  | 13, _ => okN_273
  | 14, _ => okN_274
  | 15, _ => okN_275
  | 16, _ => okN_276
  | 17, _ => okN_277
  | 18, _ => okN_278
  | 19, _ => okN_279
  | k + 20, h => absurd h (by omega)
theorem okNs_14 : ∀ i, i < 10 → okN (280 + i) = true := fun i h => match i, h with
  | 0, _ => okN_280
  | 1, _ => okN_281
  | 2, _ => okN_282
  | 3, _ => okN_283
  | 4, _ => okN_284
  | 5, _ => okN_285
  | 6, _ => okN_286
  | 7, _ => okN_287
  | 8, _ => okN_288
  | 9, _ => okN_289
  | k + 10, h => absurd h (by omega)
theorem okN_all : ∀ μ, μ < 290 → okN μ = true := by
  intro μ h
  have hd : μ = 20 * (μ / 20) + μ % 20 := (Nat.div_add_mod μ 20).symm
  have hm : μ % 20 < 20 := Nat.mod_lt _ (by decide)
  have hq : μ / 20 < 15 := by omega
  generalize μ / 20 = q at hd hq
  generalize μ % 20 = t at hd hm
  subst hd
  match q, hq with
  | 0, _ => exact okNs_0 t (by omega)
  | 1, _ => exact okNs_1 t (by omega)
  | 2, _ => exact okNs_2 t (by omega)
  | 3, _ => exact okNs_3 t (by omega)
  | 4, _ => exact okNs_4 t (by omega)
  | 5, _ => exact okNs_5 t (by omega)
  | 6, _ => exact okNs_6 t (by omega)
  | 7, _ => exact okNs_7 t (by omega)
  | 8, _ => exact okNs_8 t (by omega)
  | 9, _ => exact okNs_9 t (by omega)
  | 10, _ => exact okNs_10 t (by omega)
  | 11, _ => exact okNs_11 t (by omega)
  | 12, _ => exact okNs_12 t (by omega)
  | 13, _ => exact okNs_13 t (by omega)
  | 14, _ => exact okNs_14 t (by omega)
  | k + 15, h => exact absurd h (by omega)
