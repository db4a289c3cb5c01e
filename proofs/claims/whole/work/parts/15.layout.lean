/-! WHERE THE CELLS LIE: as the constructors make them -/
def z_LK : List Nat := [11, 10, 25, 21, 21, 25, 21, 21, 25, 21, 21, 25, 21, 21, 25, 21, 21, 21, 21, 10, 25, 21, 21, 25, 21, 21, 25, 21, 21, 25, 21, 21, 25, 21, 21, 21, 21, 1, 21, 21, 25, 21, 21, 21, 25, 21, 21, 1, 21, 21, 25, 21, 21, 21, 25, 21, 21, 26, 23, 3, 26, 1, 21, 21, 25, 21, 21, 21, 25, 21, 21, 1, 21, 21, 25, 21, 21, 21, 25, 21, 21, 1, 21, 21, 25, 21, 21, 21, 25, 21, 21, 1, 21, 21, 25, 21, 21, 21, 25, 21, 21, 1, 21, 21, 25, 21, 21, 21, 25, 21, 21, 1, 21, 21, 25, 21, 21, 21, 25, 21, 21, 1, 21, 21, 25, 21, 21, 21, 25, 21, 21, 1, 21, 21, 25, 21, 21, 21, 25, 21, 21, 7, 21, 21, 21, 21, 21, 21, 21, 5, 21, 21, 21, 21, 21, 21, 21, 21, 9, 21, 21, 21, 21, 21, 6, 21, 21, 21, 25, 21, 21, 21, 21, 21, 21, 21, 21, 21, 21, 21, 21, 21, 21, 21, 21, 21, 2, 21, 21, 21, 21, 21, 21, 21, 21, 4, 21, 21, 8, 21, 21, 21, 21, 1, 21, 21, 25, 21, 21, 21, 25, 21, 21, 1, 21, 21, 25, 21, 21, 21, 25, 21, 21, 12, 21, 21, 21, 21, 23, 22, 21, 21, 21, 21, 21, 21, 21, 21, 21, 21, 21, 21, 21, 21, 21, 21, 21, 21, 21, 21, 21, 21, 21, 21, 23, 23, 21, 21, 23, 21, 22, 24]
def z_LL : List Nat := [0, 0, 2, 12, 12, 2, 12, 12, 2, 12, 12, 2, 25, 25, 2, 25, 25, 2, 2, 0, 2, 12, 12, 2, 12, 12, 2, 12, 12, 2, 25, 25, 2, 25, 25, 2, 2, 0, 2, 2, 2, 8, 8, 25, 2, 12, 12, 0, 2, 2, 2, 8, 8, 25, 2, 12, 12, 2, 2, 0, 8, 0, 2, 2, 2, 8, 8, 25, 2, 12, 12, 0, 2, 2, 2, 8, 8, 25, 2, 12, 12, 0, 2, 2, 2, 8, 8, 25, 2, 12, 12, 0, 2, 2, 2, 8, 8, 25, 2, 12, 12, 0, 2, 2, 2, 8, 8, 25, 2, 12, 12, 0, 2, 2, 2, 8, 8, 25, 2, 12, 12, 0, 2, 2, 2, 8, 8, 25, 2, 12, 12, 0, 2, 2, 2, 8, 8, 25, 2, 12, 12, 0, 240, 30, 30, 30, 30, 30, 2, 0, 321, 321, 321, 108, 648, 108, 108, 108, 0, 256, 109, 256, 969, 969, 0, 14, 321, 14, 15, 109, 109, 109, 109, 109, 109, 109, 109, 109, 109, 109, 109, 109, 109, 109, 256, 256, 0, 321, 321, 321, 109, 109, 109, 109, 109, 0, 26, 160, 0, 14, 4, 321, 11, 0, 2, 2, 2, 8, 8, 25, 2, 12, 12, 0, 2, 2, 2, 8, 8, 25, 2, 12, 12, 0, 71, 142, 568, 71, 2, 240, 24, 24, 24, 50, 128, 2, 2, 2, 321, 321, 321, 109, 108, 321, 16384, 16384, 225, 14, 14, 321, 109, 109, 109, 109, 321, 109, 4, 109, 321, 52, 11, 1]
def z_LR : List (List (Option Nat)) := [[some 1, some 19, some 37, some 47, some 57, some 58, some 59, some 141, some 149, some 158, some 164, some 186, some 195, some 198], [none, none, none, some 2, some 5, some 8, some 11, some 14, some 17, some 18], [some 3, some 4], [], [], [some 6, some 7], [], [], [some 9, some 10], [], [], [some 12, some 13], [], [], [some 15, some 16], [], [], [], [], [none, none, none, some 20, some 23, some 26, some 29, some 32, some 35, some 36], [some 21, some 22], [], [], [some 24, some 25], [], [], [some 27, some 28], [], [], [some 30, some 31], [], [], [some 33, some 34], [], [], [], [], [none, none, some 38, some 39, some 40, some 43, some 44], [], [], [some 41, some 42], [], [], [], [some 45, some 46], [], [], [none, none, some 48, some 49, some 50, some 53, some 54], [], [], [some 51, some 52], [], [], [], [some 55, some 56], [], [], [some 203, some 213], [], [none, none, some 60], [some 61, some 71, some 81, some 91, some 101, some 111, some 121, some 131], [none, none, some 62, some 63, some 64, some 67, some 68], [], [], [some 65, some 66], [], [], [], [some 69, some 70], [], [], [none, none, some 72, some 73, some 74, some 77, some 78], [], [], [some 75, some 76], [], [], [], [some 79, some 80], [], [], [none, none, some 82, some 83, some 84, some 87, some 88], [], [], [some 85, some 86], [], [], [], [some 89, some 90], [], [], [none, none, some 92, some 93, some 94, some 97, some 98], [], [], [some 95, some 96], [], [], [], [some 99, some 100], [], [], [none, none, some 102, some 103, some 104, some 107, some 108], [], [], [some 105, some 106], [], [], [], [some 109, some 110], [], [], [none, none, some 112, some 113, some 114, some 117, some 118], [], [], [some 115, some 116], [], [], [], [some 119, some 120], [], [], [none, none, some 122, some 123, some 124, some 127, some 128], [], [], [some 125, some 126], [], [], [], [some 129, some 130], [], [], [none, none, some 132, some 133, some 134, some 137, some 138], [], [], [some 135, some 136], [], [], [], [some 139, some 140], [], [], [none, none, none, some 142, some 143, some 144, some 145, some 146, some 147, some 148], [], [], [], [], [], [], [], [none, none, none, none, some 150, some 151, some 152, some 153, some 154, some 155, some 156, some 157], [], [], [], [], [], [], [], [], [none, none, some 159, some 160, some 161, some 162, some 163], [], [], [], [], [], [none, none, none, some 165, some 166, some 167, some 168], [], [], [], [some 169, some 170, some 171, some 172, some 173, some 174, some 175, some 176, some 177, some 178, some 179, some 180, some 181, some 182, some 183], [], [], [], [], [], [], [], [], [], [], [], [], [], [], [], [], [], [none, none, none, none, none, some 187, some 188, some 189, some 190, some 191, some 192, some 193, some 194], [], [], [], [], [], [], [], [], [some 196, some 197], [], [], [none, some 199, none, some 200, none, some 201, none, some 202], [], [], [], [], [none, none, some 204, some 205, some 206, some 209, some 210], [], [], [some 207, some 208], [], [], [], [some 211, some 212], [], [], [none, none, some 214, some 215, some 216, some 219, some 220], [], [], [some 217, some 218], [], [], [], [some 221, some 222], [], [], [none, some 224, some 225, some 226, some 227, some 228, none, some 229, none, none, some 230, some 231, some 232, some 233, none, some 234, some 235, none, none, none, none, none, none, none, some 236, some 237, some 238, some 239, some 240, some 241, some 242, none, none, none, none, some 243, none, some 244, some 245, some 246, some 247, some 248, none, some 249, some 250, some 251, some 252, some 253, some 254, some 255, none, none, none, none, some 256, some 257, none, some 258, some 259, none, none, none, none, none, some 260], [], [], [], [], [], [], [], [], [], [], [], [], [], [], [], [], [], [], [], [], [], [], [], [], [], [], [], [], [], [], [], [], [], [], [], [], [], []]
/-- all cells are where the constructors made them (the weave of a fabric and the two rows of sets may change) -/
def z_L (S : z_Shp) : Prop := 262 ≤ z_n S ∧ ∀ a, a < 262 → z_k S a = z_LK.getD a 0 ∧ z_l S a = z_LL.getD a 0 ∧ ∀ j b, (z_LR.getD a []).getD j none = some b → z_r S a j = some b
def z_isF (f : Nat) : Prop := f ∈ ([37, 47, 61, 71, 81, 91, 101, 111, 121, 131, 203, 213] : List Nat)
def z_isW (w : Nat) : Prop := w = 1 ∨ w = 19
theorem zk_0 {S : z_Shp} (h : z_L S) : z_k S 0 = 11 := (h.2 0 (by decide)).1
theorem zk_1 {S : z_Shp} (h : z_L S) : z_k S 1 = 10 := (h.2 1 (by decide)).1
theorem zk_2 {S : z_Shp} (h : z_L S) : z_k S 2 = 25 := (h.2 2 (by decide)).1
theorem zl_2 {S : z_Shp} (h : z_L S) : z_l S 2 = 2 := (h.2 2 (by decide)).2.1
theorem zk_3 {S : z_Shp} (h : z_L S) : z_k S 3 = 21 := (h.2 3 (by decide)).1
theorem zl_3 {S : z_Shp} (h : z_L S) : z_l S 3 = 12 := (h.2 3 (by decide)).2.1
theorem zk_4 {S : z_Shp} (h : z_L S) : z_k S 4 = 21 := (h.2 4 (by decide)).1
theorem zl_4 {S : z_Shp} (h : z_L S) : z_l S 4 = 12 := (h.2 4 (by decide)).2.1
theorem zk_5 {S : z_Shp} (h : z_L S) : z_k S 5 = 25 := (h.2 5 (by decide)).1
theorem zl_5 {S : z_Shp} (h : z_L S) : z_l S 5 = 2 := (h.2 5 (by decide)).2.1
theorem zk_6 {S : z_Shp} (h : z_L S) : z_k S 6 = 21 := (h.2 6 (by decide)).1
theorem zl_6 {S : z_Shp} (h : z_L S) : z_l S 6 = 12 := (h.2 6 (by decide)).2.1
theorem zk_7 {S : z_Shp} (h : z_L S) : z_k S 7 = 21 := (h.2 7 (by decide)).1
theorem zl_7 {S : z_Shp} (h : z_L S) : z_l S 7 = 12 := (h.2 7 (by decide)).2.1
theorem zk_8 {S : z_Shp} (h : z_L S) : z_k S 8 = 25 := (h.2 8 (by decide)).1
theorem zl_8 {S : z_Shp} (h : z_L S) : z_l S 8 = 2 := (h.2 8 (by decide)).2.1
theorem zk_9 {S : z_Shp} (h : z_L S) : z_k S 9 = 21 := (h.2 9 (by decide)).1
theorem zl_9 {S : z_Shp} (h : z_L S) : z_l S 9 = 12 := (h.2 9 (by decide)).2.1
theorem zk_10 {S : z_Shp} (h : z_L S) : z_k S 10 = 21 := (h.2 10 (by decide)).1
theorem zl_10 {S : z_Shp} (h : z_L S) : z_l S 10 = 12 := (h.2 10 (by decide)).2.1
theorem zk_11 {S : z_Shp} (h : z_L S) : z_k S 11 = 25 := (h.2 11 (by decide)).1
theorem zl_11 {S : z_Shp} (h : z_L S) : z_l S 11 = 2 := (h.2 11 (by decide)).2.1
theorem zk_12 {S : z_Shp} (h : z_L S) : z_k S 12 = 21 := (h.2 12 (by decide)).1
theorem zl_12 {S : z_Shp} (h : z_L S) : z_l S 12 = 25 := (h.2 12 (by decide)).2.1
theorem zk_13 {S : z_Shp} (h : z_L S) : z_k S 13 = 21 := (h.2 13 (by decide)).1
theorem zl_13 {S : z_Shp} (h : z_L S) : z_l S 13 = 25 := (h.2 13 (by decide)).2.1
theorem zk_14 {S : z_Shp} (h : z_L S) : z_k S 14 = 25 := (h.2 14 (by decide)).1
theorem zl_14 {S : z_Shp} (h : z_L S) : z_l S 14 = 2 := (h.2 14 (by decide)).2.1
theorem zk_15 {S : z_Shp} (h : z_L S) : z_k S 15 = 21 := (h.2 15 (by decide)).1
theorem zl_15 {S : z_Shp} (h : z_L S) : z_l S 15 = 25 := (h.2 15 (by decide)).2.1
theorem zk_16 {S : z_Shp} (h : z_L S) : z_k S 16 = 21 := (h.2 16 (by decide)).1
theorem zl_16 {S : z_Shp} (h : z_L S) : z_l S 16 = 25 := (h.2 16 (by decide)).2.1
theorem zk_17 {S : z_Shp} (h : z_L S) : z_k S 17 = 21 := (h.2 17 (by decide)).1
theorem zl_17 {S : z_Shp} (h : z_L S) : z_l S 17 = 2 := (h.2 17 (by decide)).2.1
theorem zk_18 {S : z_Shp} (h : z_L S) : z_k S 18 = 21 := (h.2 18 (by decide)).1
theorem zl_18 {S : z_Shp} (h : z_L S) : z_l S 18 = 2 := (h.2 18 (by decide)).2.1
theorem zk_19 {S : z_Shp} (h : z_L S) : z_k S 19 = 10 := (h.2 19 (by decide)).1
theorem zk_20 {S : z_Shp} (h : z_L S) : z_k S 20 = 25 := (h.2 20 (by decide)).1
theorem zl_20 {S : z_Shp} (h : z_L S) : z_l S 20 = 2 := (h.2 20 (by decide)).2.1
theorem zk_21 {S : z_Shp} (h : z_L S) : z_k S 21 = 21 := (h.2 21 (by decide)).1
theorem zl_21 {S : z_Shp} (h : z_L S) : z_l S 21 = 12 := (h.2 21 (by decide)).2.1
theorem zk_22 {S : z_Shp} (h : z_L S) : z_k S 22 = 21 := (h.2 22 (by decide)).1
theorem zl_22 {S : z_Shp} (h : z_L S) : z_l S 22 = 12 := (h.2 22 (by decide)).2.1
theorem zk_23 {S : z_Shp} (h : z_L S) : z_k S 23 = 25 := (h.2 23 (by decide)).1
theorem zl_23 {S : z_Shp} (h : z_L S) : z_l S 23 = 2 := (h.2 23 (by decide)).2.1
theorem zk_24 {S : z_Shp} (h : z_L S) : z_k S 24 = 21 := (h.2 24 (by decide)).1
theorem zl_24 {S : z_Shp} (h : z_L S) : z_l S 24 = 12 := (h.2 24 (by decide)).2.1
theorem zk_25 {S : z_Shp} (h : z_L S) : z_k S 25 = 21 := (h.2 25 (by decide)).1
theorem zl_25 {S : z_Shp} (h : z_L S) : z_l S 25 = 12 := (h.2 25 (by decide)).2.1
theorem zk_26 {S : z_Shp} (h : z_L S) : z_k S 26 = 25 := (h.2 26 (by decide)).1
theorem zl_26 {S : z_Shp} (h : z_L S) : z_l S 26 = 2 := (h.2 26 (by decide)).2.1
theorem zk_27 {S : z_Shp} (h : z_L S) : z_k S 27 = 21 := (h.2 27 (by decide)).1
theorem zl_27 {S : z_Shp} (h : z_L S) : z_l S 27 = 12 := (h.2 27 (by decide)).2.1
theorem zk_28 {S : z_Shp} (h : z_L S) : z_k S 28 = 21 := (h.2 28 (by decide)).1
theorem zl_28 {S : z_Shp} (h : z_L S) : z_l S 28 = 12 := (h.2 28 (by decide)).2.1
theorem zk_29 {S : z_Shp} (h : z_L S) : z_k S 29 = 25 := (h.2 29 (by decide)).1
theorem zl_29 {S : z_Shp} (h : z_L S) : z_l S 29 = 2 := (h.2 29 (by decide)).2.1
theorem zk_30 {S : z_Shp} (h : z_L S) : z_k S 30 = 21 := (h.2 30 (by decide)).1
theorem zl_30 {S : z_Shp} (h : z_L S) : z_l S 30 = 25 := (h.2 30 (by decide)).2.1
theorem zk_31 {S : z_Shp} (h : z_L S) : z_k S 31 = 21 := (h.2 31 (by decide)).1
theorem zl_31 {S : z_Shp} (h : z_L S) : z_l S 31 = 25 := (h.2 31 (by decide)).2.1
theorem zk_32 {S : z_Shp} (h : z_L S) : z_k S 32 = 25 := (h.2 32 (by decide)).1
theorem zl_32 {S : z_Shp} (h : z_L S) : z_l S 32 = 2 := (h.2 32 (by decide)).2.1
theorem zk_33 {S : z_Shp} (h : z_L S) : z_k S 33 = 21 := (h.2 33 (by decide)).1
theorem zl_33 {S : z_Shp} (h : z_L S) : z_l S 33 = 25 := (h.2 33 (by decide)).2.1
theorem zk_34 {S : z_Shp} (h : z_L S) : z_k S 34 = 21 := (h.2 34 (by decide)).1
theorem zl_34 {S : z_Shp} (h : z_L S) : z_l S 34 = 25 := (h.2 34 (by decide)).2.1
theorem zk_35 {S : z_Shp} (h : z_L S) : z_k S 35 = 21 := (h.2 35 (by decide)).1
theorem zl_35 {S : z_Shp} (h : z_L S) : z_l S 35 = 2 := (h.2 35 (by decide)).2.1
theorem zk_36 {S : z_Shp} (h : z_L S) : z_k S 36 = 21 := (h.2 36 (by decide)).1
theorem zl_36 {S : z_Shp} (h : z_L S) : z_l S 36 = 2 := (h.2 36 (by decide)).2.1
theorem zk_37 {S : z_Shp} (h : z_L S) : z_k S 37 = 1 := (h.2 37 (by decide)).1
theorem zk_38 {S : z_Shp} (h : z_L S) : z_k S 38 = 21 := (h.2 38 (by decide)).1
theorem zl_38 {S : z_Shp} (h : z_L S) : z_l S 38 = 2 := (h.2 38 (by decide)).2.1
theorem zk_39 {S : z_Shp} (h : z_L S) : z_k S 39 = 21 := (h.2 39 (by decide)).1
theorem zl_39 {S : z_Shp} (h : z_L S) : z_l S 39 = 2 := (h.2 39 (by decide)).2.1
theorem zk_40 {S : z_Shp} (h : z_L S) : z_k S 40 = 25 := (h.2 40 (by decide)).1
theorem zl_40 {S : z_Shp} (h : z_L S) : z_l S 40 = 2 := (h.2 40 (by decide)).2.1
theorem zk_41 {S : z_Shp} (h : z_L S) : z_k S 41 = 21 := (h.2 41 (by decide)).1
theorem zl_41 {S : z_Shp} (h : z_L S) : z_l S 41 = 8 := (h.2 41 (by decide)).2.1
theorem zk_42 {S : z_Shp} (h : z_L S) : z_k S 42 = 21 := (h.2 42 (by decide)).1
theorem zl_42 {S : z_Shp} (h : z_L S) : z_l S 42 = 8 := (h.2 42 (by decide)).2.1
theorem zk_43 {S : z_Shp} (h : z_L S) : z_k S 43 = 21 := (h.2 43 (by decide)).1
theorem zl_43 {S : z_Shp} (h : z_L S) : z_l S 43 = 25 := (h.2 43 (by decide)).2.1
theorem zk_44 {S : z_Shp} (h : z_L S) : z_k S 44 = 25 := (h.2 44 (by decide)).1
theorem zl_44 {S : z_Shp} (h : z_L S) : z_l S 44 = 2 := (h.2 44 (by decide)).2.1
theorem zk_45 {S : z_Shp} (h : z_L S) : z_k S 45 = 21 := (h.2 45 (by decide)).1
theorem zl_45 {S : z_Shp} (h : z_L S) : z_l S 45 = 12 := (h.2 45 (by decide)).2.1
theorem zk_46 {S : z_Shp} (h : z_L S) : z_k S 46 = 21 := (h.2 46 (by decide)).1
theorem zl_46 {S : z_Shp} (h : z_L S) : z_l S 46 = 12 := (h.2 46 (by decide)).2.1
theorem zk_47 {S : z_Shp} (h : z_L S) : z_k S 47 = 1 := (h.2 47 (by decide)).1
theorem zk_48 {S : z_Shp} (h : z_L S) : z_k S 48 = 21 := (h.2 48 (by decide)).1
theorem zl_48 {S : z_Shp} (h : z_L S) : z_l S 48 = 2 := (h.2 48 (by decide)).2.1
theorem zk_49 {S : z_Shp} (h : z_L S) : z_k S 49 = 21 := (h.2 49 (by decide)).1
theorem zl_49 {S : z_Shp} (h : z_L S) : z_l S 49 = 2 := (h.2 49 (by decide)).2.1
theorem zk_50 {S : z_Shp} (h : z_L S) : z_k S 50 = 25 := (h.2 50 (by decide)).1
theorem zl_50 {S : z_Shp} (h : z_L S) : z_l S 50 = 2 := (h.2 50 (by decide)).2.1
theorem zk_51 {S : z_Shp} (h : z_L S) : z_k S 51 = 21 := (h.2 51 (by decide)).1
theorem zl_51 {S : z_Shp} (h : z_L S) : z_l S 51 = 8 := (h.2 51 (by decide)).2.1
theorem zk_52 {S : z_Shp} (h : z_L S) : z_k S 52 = 21 := (h.2 52 (by decide)).1
theorem zl_52 {S : z_Shp} (h : z_L S) : z_l S 52 = 8 := (h.2 52 (by decide)).2.1
theorem zk_53 {S : z_Shp} (h : z_L S) : z_k S 53 = 21 := (h.2 53 (by decide)).1
theorem zl_53 {S : z_Shp} (h : z_L S) : z_l S 53 = 25 := (h.2 53 (by decide)).2.1
theorem zk_54 {S : z_Shp} (h : z_L S) : z_k S 54 = 25 := (h.2 54 (by decide)).1
theorem zl_54 {S : z_Shp} (h : z_L S) : z_l S 54 = 2 := (h.2 54 (by decide)).2.1
theorem zk_55 {S : z_Shp} (h : z_L S) : z_k S 55 = 21 := (h.2 55 (by decide)).1
theorem zl_55 {S : z_Shp} (h : z_L S) : z_l S 55 = 12 := (h.2 55 (by decide)).2.1
theorem zk_56 {S : z_Shp} (h : z_L S) : z_k S 56 = 21 := (h.2 56 (by decide)).1
theorem zl_56 {S : z_Shp} (h : z_L S) : z_l S 56 = 12 := (h.2 56 (by decide)).2.1
theorem zk_57 {S : z_Shp} (h : z_L S) : z_k S 57 = 26 := (h.2 57 (by decide)).1
theorem zl_57 {S : z_Shp} (h : z_L S) : z_l S 57 = 2 := (h.2 57 (by decide)).2.1
theorem zk_58 {S : z_Shp} (h : z_L S) : z_k S 58 = 23 := (h.2 58 (by decide)).1
theorem zl_58 {S : z_Shp} (h : z_L S) : z_l S 58 = 2 := (h.2 58 (by decide)).2.1
theorem zk_59 {S : z_Shp} (h : z_L S) : z_k S 59 = 3 := (h.2 59 (by decide)).1
theorem zk_60 {S : z_Shp} (h : z_L S) : z_k S 60 = 26 := (h.2 60 (by decide)).1
theorem zl_60 {S : z_Shp} (h : z_L S) : z_l S 60 = 8 := (h.2 60 (by decide)).2.1
theorem zk_61 {S : z_Shp} (h : z_L S) : z_k S 61 = 1 := (h.2 61 (by decide)).1
theorem zk_62 {S : z_Shp} (h : z_L S) : z_k S 62 = 21 := (h.2 62 (by decide)).1
theorem zl_62 {S : z_Shp} (h : z_L S) : z_l S 62 = 2 := (h.2 62 (by decide)).2.1
theorem zk_63 {S : z_Shp} (h : z_L S) : z_k S 63 = 21 := (h.2 63 (by decide)).1
theorem zl_63 {S : z_Shp} (h : z_L S) : z_l S 63 = 2 := (h.2 63 (by decide)).2.1
theorem zk_64 {S : z_Shp} (h : z_L S) : z_k S 64 = 25 := (h.2 64 (by decide)).1
theorem zl_64 {S : z_Shp} (h : z_L S) : z_l S 64 = 2 := (h.2 64 (by decide)).2.1
theorem zk_65 {S : z_Shp} (h : z_L S) : z_k S 65 = 21 := (h.2 65 (by decide)).1
theorem zl_65 {S : z_Shp} (h : z_L S) : z_l S 65 = 8 := (h.2 65 (by decide)).2.1
theorem zk_66 {S : z_Shp} (h : z_L S) : z_k S 66 = 21 := (h.2 66 (by decide)).1
theorem zl_66 {S : z_Shp} (h : z_L S) : z_l S 66 = 8 := (h.2 66 (by decide)).2.1
theorem zk_67 {S : z_Shp} (h : z_L S) : z_k S 67 = 21 := (h.2 67 (by decide)).1
theorem zl_67 {S : z_Shp} (h : z_L S) : z_l S 67 = 25 := (h.2 67 (by decide)).2.1
theorem zk_68 {S : z_Shp} (h : z_L S) : z_k S 68 = 25 := (h.2 68 (by decide)).1
theorem zl_68 {S : z_Shp} (h : z_L S) : z_l S 68 = 2 := (h.2 68 (by decide)).2.1
theorem zk_69 {S : z_Shp} (h : z_L S) : z_k S 69 = 21 := (h.2 69 (by decide)).1
theorem zl_69 {S : z_Shp} (h : z_L S) : z_l S 69 = 12 := (h.2 69 (by decide)).2.1
theorem zk_70 {S : z_Shp} (h : z_L S) : z_k S 70 = 21 := (h.2 70 (by decide)).1
theorem zl_70 {S : z_Shp} (h : z_L S) : z_l S 70 = 12 := (h.2 70 (by decide)).2.1
theorem zk_71 {S : z_Shp} (h : z_L S) : z_k S 71 = 1 := (h.2 71 (by decide)).1
theorem zk_72 {S : z_Shp} (h : z_L S) : z_k S 72 = 21 := (h.2 72 (by decide)).1
theorem zl_72 {S : z_Shp} (h : z_L S) : z_l S 72 = 2 := (h.2 72 (by decide)).2.1
theorem zk_73 {S : z_Shp} (h : z_L S) : z_k S 73 = 21 := (h.2 73 (by decide)).1
theorem zl_73 {S : z_Shp} (h : z_L S) : z_l S 73 = 2 := (h.2 73 (by decide)).2.1
theorem zk_74 {S : z_Shp} (h : z_L S) : z_k S 74 = 25 := (h.2 74 (by decide)).1
theorem zl_74 {S : z_Shp} (h : z_L S) : z_l S 74 = 2 := (h.2 74 (by decide)).2.1
theorem zk_75 {S : z_Shp} (h : z_L S) : z_k S 75 = 21 := (h.2 75 (by decide)).1
theorem zl_75 {S : z_Shp} (h : z_L S) : z_l S 75 = 8 := (h.2 75 (by decide)).2.1
theorem zk_76 {S : z_Shp} (h : z_L S) : z_k S 76 = 21 := (h.2 76 (by decide)).1
theorem zl_76 {S : z_Shp} (h : z_L S) : z_l S 76 = 8 := (h.2 76 (by decide)).2.1
theorem zk_77 {S : z_Shp} (h : z_L S) : z_k S 77 = 21 := (h.2 77 (by decide)).1
theorem zl_77 {S : z_Shp} (h : z_L S) : z_l S 77 = 25 := (h.2 77 (by decide)).2.1
theorem zk_78 {S : z_Shp} (h : z_L S) : z_k S 78 = 25 := (h.2 78 (by decide)).1
theorem zl_78 {S : z_Shp} (h : z_L S) : z_l S 78 = 2 := (h.2 78 (by decide)).2.1
theorem zk_79 {S : z_Shp} (h : z_L S) : z_k S 79 = 21 := (h.2 79 (by decide)).1
theorem zl_79 {S : z_Shp} (h : z_L S) : z_l S 79 = 12 := (h.2 79 (by decide)).2.1
theorem zk_80 {S : z_Shp} (h : z_L S) : z_k S 80 = 21 := (h.2 80 (by decide)).1
theorem zl_80 {S : z_Shp} (h : z_L S) : z_l S 80 = 12 := (h.2 80 (by decide)).2.1
theorem zk_81 {S : z_Shp} (h : z_L S) : z_k S 81 = 1 := (h.2 81 (by decide)).1
theorem zk_82 {S : z_Shp} (h : z_L S) : z_k S 82 = 21 := (h.2 82 (by decide)).1
theorem zl_82 {S : z_Shp} (h : z_L S) : z_l S 82 = 2 := (h.2 82 (by decide)).2.1
theorem zk_83 {S : z_Shp} (h : z_L S) : z_k S 83 = 21 := (h.2 83 (by decide)).1
theorem zl_83 {S : z_Shp} (h : z_L S) : z_l S 83 = 2 := (h.2 83 (by decide)).2.1
theorem zk_84 {S : z_Shp} (h : z_L S) : z_k S 84 = 25 := (h.2 84 (by decide)).1
theorem zl_84 {S : z_Shp} (h : z_L S) : z_l S 84 = 2 := (h.2 84 (by decide)).2.1
theorem zk_85 {S : z_Shp} (h : z_L S) : z_k S 85 = 21 := (h.2 85 (by decide)).1
theorem zl_85 {S : z_Shp} (h : z_L S) : z_l S 85 = 8 := (h.2 85 (by decide)).2.1
theorem zk_86 {S : z_Shp} (h : z_L S) : z_k S 86 = 21 := (h.2 86 (by decide)).1
theorem zl_86 {S : z_Shp} (h : z_L S) : z_l S 86 = 8 := (h.2 86 (by decide)).2.1
theorem zk_87 {S : z_Shp} (h : z_L S) : z_k S 87 = 21 := (h.2 87 (by decide)).1
theorem zl_87 {S : z_Shp} (h : z_L S) : z_l S 87 = 25 := (h.2 87 (by decide)).2.1
theorem zk_88 {S : z_Shp} (h : z_L S) : z_k S 88 = 25 := (h.2 88 (by decide)).1
theorem zl_88 {S : z_Shp} (h : z_L S) : z_l S 88 = 2 := (h.2 88 (by decide)).2.1
theorem zk_89 {S : z_Shp} (h : z_L S) : z_k S 89 = 21 := (h.2 89 (by decide)).1
theorem zl_89 {S : z_Shp} (h : z_L S) : z_l S 89 = 12 := (h.2 89 (by decide)).2.1
theorem zk_90 {S : z_Shp} (h : z_L S) : z_k S 90 = 21 := (h.2 90 (by decide)).1
theorem zl_90 {S : z_Shp} (h : z_L S) : z_l S 90 = 12 := (h.2 90 (by decide)).2.1
theorem zk_91 {S : z_Shp} (h : z_L S) : z_k S 91 = 1 := (h.2 91 (by decide)).1
theorem zk_92 {S : z_Shp} (h : z_L S) : z_k S 92 = 21 := (h.2 92 (by decide)).1
theorem zl_92 {S : z_Shp} (h : z_L S) : z_l S 92 = 2 := (h.2 92 (by decide)).2.1
theorem zk_93 {S : z_Shp} (h : z_L S) : z_k S 93 = 21 := (h.2 93 (by decide)).1
theorem zl_93 {S : z_Shp} (h : z_L S) : z_l S 93 = 2 := (h.2 93 (by decide)).2.1
theorem zk_94 {S : z_Shp} (h : z_L S) : z_k S 94 = 25 := (h.2 94 (by decide)).1
theorem zl_94 {S : z_Shp} (h : z_L S) : z_l S 94 = 2 := (h.2 94 (by decide)).2.1
theorem zk_95 {S : z_Shp} (h : z_L S) : z_k S 95 = 21 := (h.2 95 (by decide)).1
theorem zl_95 {S : z_Shp} (h : z_L S) : z_l S 95 = 8 := (h.2 95 (by decide)).2.1
theorem zk_96 {S : z_Shp} (h : z_L S) : z_k S 96 = 21 := (h.2 96 (by decide)).1
theorem zl_96 {S : z_Shp} (h : z_L S) : z_l S 96 = 8 := (h.2 96 (by decide)).2.1
theorem zk_97 {S : z_Shp} (h : z_L S) : z_k S 97 = 21 := (h.2 97 (by decide)).1
theorem zl_97 {S : z_Shp} (h : z_L S) : z_l S 97 = 25 := (h.2 97 (by decide)).2.1
theorem zk_98 {S : z_Shp} (h : z_L S) : z_k S 98 = 25 := (h.2 98 (by decide)).1
theorem zl_98 {S : z_Shp} (h : z_L S) : z_l S 98 = 2 := (h.2 98 (by decide)).2.1
theorem zk_99 {S : z_Shp} (h : z_L S) : z_k S 99 = 21 := (h.2 99 (by decide)).1
theorem zl_99 {S : z_Shp} (h : z_L S) : z_l S 99 = 12 := (h.2 99 (by decide)).2.1
theorem zk_100 {S : z_Shp} (h : z_L S) : z_k S 100 = 21 := (h.2 100 (by decide)).1
theorem zl_100 {S : z_Shp} (h : z_L S) : z_l S 100 = 12 := (h.2 100 (by decide)).2.1
theorem zk_101 {S : z_Shp} (h : z_L S) : z_k S 101 = 1 := (h.2 101 (by decide)).1
theorem zk_102 {S : z_Shp} (h : z_L S) : z_k S 102 = 21 := (h.2 102 (by decide)).1
theorem zl_102 {S : z_Shp} (h : z_L S) : z_l S 102 = 2 := (h.2 102 (by decide)).2.1
theorem zk_103 {S : z_Shp} (h : z_L S) : z_k S 103 = 21 := (h.2 103 (by decide)).1
theorem zl_103 {S : z_Shp} (h : z_L S) : z_l S 103 = 2 := (h.2 103 (by decide)).2.1
theorem zk_104 {S : z_Shp} (h : z_L S) : z_k S 104 = 25 := (h.2 104 (by decide)).1
theorem zl_104 {S : z_Shp} (h : z_L S) : z_l S 104 = 2 := (h.2 104 (by decide)).2.1
theorem zk_105 {S : z_Shp} (h : z_L S) : z_k S 105 = 21 := (h.2 105 (by decide)).1
theorem zl_105 {S : z_Shp} (h : z_L S) : z_l S 105 = 8 := (h.2 105 (by decide)).2.1
theorem zk_106 {S : z_Shp} (h : z_L S) : z_k S 106 = 21 := (h.2 106 (by decide)).1
theorem zl_106 {S : z_Shp} (h : z_L S) : z_l S 106 = 8 := (h.2 106 (by decide)).2.1
theorem zk_107 {S : z_Shp} (h : z_L S) : z_k S 107 = 21 := (h.2 107 (by decide)).1
theorem zl_107 {S : z_Shp} (h : z_L S) : z_l S 107 = 25 := (h.2 107 (by decide)).2.1
theorem zk_108 {S : z_Shp} (h : z_L S) : z_k S 108 = 25 := (h.2 108 (by decide)).1
theorem zl_108 {S : z_Shp} (h : z_L S) : z_l S 108 = 2 := (h.2 108 (by decide)).2.1
theorem zk_109 {S : z_Shp} (h : z_L S) : z_k S 109 = 21 := (h.2 109 (by decide)).1
theorem zl_109 {S : z_Shp} (h : z_L S) : z_l S 109 = 12 := (h.2 109 (by decide)).2.1
theorem zk_110 {S : z_Shp} (h : z_L S) : z_k S 110 = 21 := (h.2 110 (by decide)).1
theorem zl_110 {S : z_Shp} (h : z_L S) : z_l S 110 = 12 := (h.2 110 (by decide)).2.1
theorem zk_111 {S : z_Shp} (h : z_L S) : z_k S 111 = 1 := (h.2 111 (by decide)).1
theorem zk_112 {S : z_Shp} (h : z_L S) : z_k S 112 = 21 := (h.2 112 (by decide)).1
theorem zl_112 {S : z_Shp} (h : z_L S) : z_l S 112 = 2 := (h.2 112 (by decide)).2.1
theorem zk_113 {S : z_Shp} (h : z_L S) : z_k S 113 = 21 := (h.2 113 (by decide)).1
theorem zl_113 {S : z_Shp} (h : z_L S) : z_l S 113 = 2 := (h.2 113 (by decide)).2.1
theorem zk_114 {S : z_Shp} (h : z_L S) : z_k S 114 = 25 := (h.2 114 (by decide)).1
theorem zl_114 {S : z_Shp} (h : z_L S) : z_l S 114 = 2 := (h.2 114 (by decide)).2.1
theorem zk_115 {S : z_Shp} (h : z_L S) : z_k S 115 = 21 := (h.2 115 (by decide)).1
theorem zl_115 {S : z_Shp} (h : z_L S) : z_l S 115 = 8 := (h.2 115 (by decide)).2.1
theorem zk_116 {S : z_Shp} (h : z_L S) : z_k S 116 = 21 := (h.2 116 (by decide)).1
theorem zl_116 {S : z_Shp} (h : z_L S) : z_l S 116 = 8 := (h.2 116 (by decide)).2.1
theorem zk_117 {S : z_Shp} (h : z_L S) : z_k S 117 = 21 := (h.2 117 (by decide)).1
theorem zl_117 {S : z_Shp} (h : z_L S) : z_l S 117 = 25 := (h.2 117 (by decide)).2.1
theorem zk_118 {S : z_Shp} (h : z_L S) : z_k S 118 = 25 := (h.2 118 (by decide)).1
theorem zl_118 {S : z_Shp} (h : z_L S) : z_l S 118 = 2 := (h.2 118 (by decide)).2.1
theorem zk_119 {S : z_Shp} (h : z_L S) : z_k S 119 = 21 := (h.2 119 (by decide)).1
theorem zl_119 {S : z_Shp} (h : z_L S) : z_l S 119 = 12 := (h.2 119 (by decide)).2.1
theorem zk_120 {S : z_Shp} (h : z_L S) : z_k S 120 = 21 := (h.2 120 (by decide)).1
theorem zl_120 {S : z_Shp} (h : z_L S) : z_l S 120 = 12 := (h.2 120 (by decide)).2.1
theorem zk_121 {S : z_Shp} (h : z_L S) : z_k S 121 = 1 := (h.2 121 (by decide)).1
theorem zk_122 {S : z_Shp} (h : z_L S) : z_k S 122 = 21 := (h.2 122 (by decide)).1
theorem zl_122 {S : z_Shp} (h : z_L S) : z_l S 122 = 2 := (h.2 122 (by decide)).2.1
theorem zk_123 {S : z_Shp} (h : z_L S) : z_k S 123 = 21 := (h.2 123 (by decide)).1
theorem zl_123 {S : z_Shp} (h : z_L S) : z_l S 123 = 2 := (h.2 123 (by decide)).2.1
theorem zk_124 {S : z_Shp} (h : z_L S) : z_k S 124 = 25 := (h.2 124 (by decide)).1
theorem zl_124 {S : z_Shp} (h : z_L S) : z_l S 124 = 2 := (h.2 124 (by decide)).2.1
theorem zk_125 {S : z_Shp} (h : z_L S) : z_k S 125 = 21 := (h.2 125 (by decide)).1
theorem zl_125 {S : z_Shp} (h : z_L S) : z_l S 125 = 8 := (h.2 125 (by decide)).2.1
theorem zk_126 {S : z_Shp} (h : z_L S) : z_k S 126 = 21 := (h.2 126 (by decide)).1
theorem zl_126 {S : z_Shp} (h : z_L S) : z_l S 126 = 8 := (h.2 126 (by decide)).2.1
theorem zk_127 {S : z_Shp} (h : z_L S) : z_k S 127 = 21 := (h.2 127 (by decide)).1
theorem zl_127 {S : z_Shp} (h : z_L S) : z_l S 127 = 25 := (h.2 127 (by decide)).2.1
theorem zk_128 {S : z_Shp} (h : z_L S) : z_k S 128 = 25 := (h.2 128 (by decide)).1
theorem zl_128 {S : z_Shp} (h : z_L S) : z_l S 128 = 2 := (h.2 128 (by decide)).2.1
theorem zk_129 {S : z_Shp} (h : z_L S) : z_k S 129 = 21 := (h.2 129 (by decide)).1
theorem zl_129 {S : z_Shp} (h : z_L S) : z_l S 129 = 12 := (h.2 129 (by decide)).2.1
theorem zk_130 {S : z_Shp} (h : z_L S) : z_k S 130 = 21 := (h.2 130 (by decide)).1
theorem zl_130 {S : z_Shp} (h : z_L S) : z_l S 130 = 12 := (h.2 130 (by decide)).2.1
theorem zk_131 {S : z_Shp} (h : z_L S) : z_k S 131 = 1 := (h.2 131 (by decide)).1
theorem zk_132 {S : z_Shp} (h : z_L S) : z_k S 132 = 21 := (h.2 132 (by decide)).1
theorem zl_132 {S : z_Shp} (h : z_L S) : z_l S 132 = 2 := (h.2 132 (by decide)).2.1
theorem zk_133 {S : z_Shp} (h : z_L S) : z_k S 133 = 21 := (h.2 133 (by decide)).1
theorem zl_133 {S : z_Shp} (h : z_L S) : z_l S 133 = 2 := (h.2 133 (by decide)).2.1
theorem zk_134 {S : z_Shp} (h : z_L S) : z_k S 134 = 25 := (h.2 134 (by decide)).1
theorem zl_134 {S : z_Shp} (h : z_L S) : z_l S 134 = 2 := (h.2 134 (by decide)).2.1
theorem zk_135 {S : z_Shp} (h : z_L S) : z_k S 135 = 21 := (h.2 135 (by decide)).1
theorem zl_135 {S : z_Shp} (h : z_L S) : z_l S 135 = 8 := (h.2 135 (by decide)).2.1
theorem zk_136 {S : z_Shp} (h : z_L S) : z_k S 136 = 21 := (h.2 136 (by decide)).1
theorem zl_136 {S : z_Shp} (h : z_L S) : z_l S 136 = 8 := (h.2 136 (by decide)).2.1
theorem zk_137 {S : z_Shp} (h : z_L S) : z_k S 137 = 21 := (h.2 137 (by decide)).1
theorem zl_137 {S : z_Shp} (h : z_L S) : z_l S 137 = 25 := (h.2 137 (by decide)).2.1
theorem zk_138 {S : z_Shp} (h : z_L S) : z_k S 138 = 25 := (h.2 138 (by decide)).1
theorem zl_138 {S : z_Shp} (h : z_L S) : z_l S 138 = 2 := (h.2 138 (by decide)).2.1
theorem zk_139 {S : z_Shp} (h : z_L S) : z_k S 139 = 21 := (h.2 139 (by decide)).1
theorem zl_139 {S : z_Shp} (h : z_L S) : z_l S 139 = 12 := (h.2 139 (by decide)).2.1
theorem zk_140 {S : z_Shp} (h : z_L S) : z_k S 140 = 21 := (h.2 140 (by decide)).1
theorem zl_140 {S : z_Shp} (h : z_L S) : z_l S 140 = 12 := (h.2 140 (by decide)).2.1
theorem zk_141 {S : z_Shp} (h : z_L S) : z_k S 141 = 7 := (h.2 141 (by decide)).1
theorem zk_142 {S : z_Shp} (h : z_L S) : z_k S 142 = 21 := (h.2 142 (by decide)).1
theorem zl_142 {S : z_Shp} (h : z_L S) : z_l S 142 = 240 := (h.2 142 (by decide)).2.1
theorem zk_143 {S : z_Shp} (h : z_L S) : z_k S 143 = 21 := (h.2 143 (by decide)).1
theorem zl_143 {S : z_Shp} (h : z_L S) : z_l S 143 = 30 := (h.2 143 (by decide)).2.1
theorem zk_144 {S : z_Shp} (h : z_L S) : z_k S 144 = 21 := (h.2 144 (by decide)).1
theorem zl_144 {S : z_Shp} (h : z_L S) : z_l S 144 = 30 := (h.2 144 (by decide)).2.1
theorem zk_145 {S : z_Shp} (h : z_L S) : z_k S 145 = 21 := (h.2 145 (by decide)).1
theorem zl_145 {S : z_Shp} (h : z_L S) : z_l S 145 = 30 := (h.2 145 (by decide)).2.1
theorem zk_146 {S : z_Shp} (h : z_L S) : z_k S 146 = 21 := (h.2 146 (by decide)).1
theorem zl_146 {S : z_Shp} (h : z_L S) : z_l S 146 = 30 := (h.2 146 (by decide)).2.1
theorem zk_147 {S : z_Shp} (h : z_L S) : z_k S 147 = 21 := (h.2 147 (by decide)).1
theorem zl_147 {S : z_Shp} (h : z_L S) : z_l S 147 = 30 := (h.2 147 (by decide)).2.1
theorem zk_148 {S : z_Shp} (h : z_L S) : z_k S 148 = 21 := (h.2 148 (by decide)).1
theorem zl_148 {S : z_Shp} (h : z_L S) : z_l S 148 = 2 := (h.2 148 (by decide)).2.1
theorem zk_149 {S : z_Shp} (h : z_L S) : z_k S 149 = 5 := (h.2 149 (by decide)).1
theorem zk_150 {S : z_Shp} (h : z_L S) : z_k S 150 = 21 := (h.2 150 (by decide)).1
theorem zl_150 {S : z_Shp} (h : z_L S) : z_l S 150 = 321 := (h.2 150 (by decide)).2.1
theorem zk_151 {S : z_Shp} (h : z_L S) : z_k S 151 = 21 := (h.2 151 (by decide)).1
theorem zl_151 {S : z_Shp} (h : z_L S) : z_l S 151 = 321 := (h.2 151 (by decide)).2.1
theorem zk_152 {S : z_Shp} (h : z_L S) : z_k S 152 = 21 := (h.2 152 (by decide)).1
theorem zl_152 {S : z_Shp} (h : z_L S) : z_l S 152 = 321 := (h.2 152 (by decide)).2.1
theorem zk_153 {S : z_Shp} (h : z_L S) : z_k S 153 = 21 := (h.2 153 (by decide)).1
theorem zl_153 {S : z_Shp} (h : z_L S) : z_l S 153 = 108 := (h.2 153 (by decide)).2.1
theorem zk_154 {S : z_Shp} (h : z_L S) : z_k S 154 = 21 := (h.2 154 (by decide)).1
theorem zl_154 {S : z_Shp} (h : z_L S) : z_l S 154 = 648 := (h.2 154 (by decide)).2.1
theorem zk_155 {S : z_Shp} (h : z_L S) : z_k S 155 = 21 := (h.2 155 (by decide)).1
theorem zl_155 {S : z_Shp} (h : z_L S) : z_l S 155 = 108 := (h.2 155 (by decide)).2.1
theorem zk_156 {S : z_Shp} (h : z_L S) : z_k S 156 = 21 := (h.2 156 (by decide)).1
theorem zl_156 {S : z_Shp} (h : z_L S) : z_l S 156 = 108 := (h.2 156 (by decide)).2.1
theorem zk_157 {S : z_Shp} (h : z_L S) : z_k S 157 = 21 := (h.2 157 (by decide)).1
theorem zl_157 {S : z_Shp} (h : z_L S) : z_l S 157 = 108 := (h.2 157 (by decide)).2.1
theorem zk_158 {S : z_Shp} (h : z_L S) : z_k S 158 = 9 := (h.2 158 (by decide)).1
theorem zk_159 {S : z_Shp} (h : z_L S) : z_k S 159 = 21 := (h.2 159 (by decide)).1
theorem zl_159 {S : z_Shp} (h : z_L S) : z_l S 159 = 256 := (h.2 159 (by decide)).2.1
theorem zk_160 {S : z_Shp} (h : z_L S) : z_k S 160 = 21 := (h.2 160 (by decide)).1
theorem zl_160 {S : z_Shp} (h : z_L S) : z_l S 160 = 109 := (h.2 160 (by decide)).2.1
theorem zk_161 {S : z_Shp} (h : z_L S) : z_k S 161 = 21 := (h.2 161 (by decide)).1
theorem zl_161 {S : z_Shp} (h : z_L S) : z_l S 161 = 256 := (h.2 161 (by decide)).2.1
theorem zk_162 {S : z_Shp} (h : z_L S) : z_k S 162 = 21 := (h.2 162 (by decide)).1
theorem zl_162 {S : z_Shp} (h : z_L S) : z_l S 162 = 969 := (h.2 162 (by decide)).2.1
theorem zk_163 {S : z_Shp} (h : z_L S) : z_k S 163 = 21 := (h.2 163 (by decide)).1
theorem zl_163 {S : z_Shp} (h : z_L S) : z_l S 163 = 969 := (h.2 163 (by decide)).2.1
theorem zk_164 {S : z_Shp} (h : z_L S) : z_k S 164 = 6 := (h.2 164 (by decide)).1
theorem zk_165 {S : z_Shp} (h : z_L S) : z_k S 165 = 21 := (h.2 165 (by decide)).1
theorem zl_165 {S : z_Shp} (h : z_L S) : z_l S 165 = 14 := (h.2 165 (by decide)).2.1
theorem zk_166 {S : z_Shp} (h : z_L S) : z_k S 166 = 21 := (h.2 166 (by decide)).1
theorem zl_166 {S : z_Shp} (h : z_L S) : z_l S 166 = 321 := (h.2 166 (by decide)).2.1
theorem zk_167 {S : z_Shp} (h : z_L S) : z_k S 167 = 21 := (h.2 167 (by decide)).1
theorem zl_167 {S : z_Shp} (h : z_L S) : z_l S 167 = 14 := (h.2 167 (by decide)).2.1
theorem zk_168 {S : z_Shp} (h : z_L S) : z_k S 168 = 25 := (h.2 168 (by decide)).1
theorem zl_168 {S : z_Shp} (h : z_L S) : z_l S 168 = 15 := (h.2 168 (by decide)).2.1
theorem zk_169 {S : z_Shp} (h : z_L S) : z_k S 169 = 21 := (h.2 169 (by decide)).1
theorem zl_169 {S : z_Shp} (h : z_L S) : z_l S 169 = 109 := (h.2 169 (by decide)).2.1
theorem zk_170 {S : z_Shp} (h : z_L S) : z_k S 170 = 21 := (h.2 170 (by decide)).1
theorem zl_170 {S : z_Shp} (h : z_L S) : z_l S 170 = 109 := (h.2 170 (by decide)).2.1
theorem zk_171 {S : z_Shp} (h : z_L S) : z_k S 171 = 21 := (h.2 171 (by decide)).1
theorem zl_171 {S : z_Shp} (h : z_L S) : z_l S 171 = 109 := (h.2 171 (by decide)).2.1
theorem zk_172 {S : z_Shp} (h : z_L S) : z_k S 172 = 21 := (h.2 172 (by decide)).1
theorem zl_172 {S : z_Shp} (h : z_L S) : z_l S 172 = 109 := (h.2 172 (by decide)).2.1
theorem zk_173 {S : z_Shp} (h : z_L S) : z_k S 173 = 21 := (h.2 173 (by decide)).1
theorem zl_173 {S : z_Shp} (h : z_L S) : z_l S 173 = 109 := (h.2 173 (by decide)).2.1
theorem zk_174 {S : z_Shp} (h : z_L S) : z_k S 174 = 21 := (h.2 174 (by decide)).1
theorem zl_174 {S : z_Shp} (h : z_L S) : z_l S 174 = 109 := (h.2 174 (by decide)).2.1
theorem zk_175 {S : z_Shp} (h : z_L S) : z_k S 175 = 21 := (h.2 175 (by decide)).1
theorem zl_175 {S : z_Shp} (h : z_L S) : z_l S 175 = 109 := (h.2 175 (by decide)).2.1
theorem zk_176 {S : z_Shp} (h : z_L S) : z_k S 176 = 21 := (h.2 176 (by decide)).1
theorem zl_176 {S : z_Shp} (h : z_L S) : z_l S 176 = 109 := (h.2 176 (by decide)).2.1
theorem zk_177 {S : z_Shp} (h : z_L S) : z_k S 177 = 21 := (h.2 177 (by decide)).1
theorem zl_177 {S : z_Shp} (h : z_L S) : z_l S 177 = 109 := (h.2 177 (by decide)).2.1
theorem zk_178 {S : z_Shp} (h : z_L S) : z_k S 178 = 21 := (h.2 178 (by decide)).1
theorem zl_178 {S : z_Shp} (h : z_L S) : z_l S 178 = 109 := (h.2 178 (by decide)).2.1
theorem zk_179 {S : z_Shp} (h : z_L S) : z_k S 179 = 21 := (h.2 179 (by decide)).1
theorem zl_179 {S : z_Shp} (h : z_L S) : z_l S 179 = 109 := (h.2 179 (by decide)).2.1
theorem zk_180 {S : z_Shp} (h : z_L S) : z_k S 180 = 21 := (h.2 180 (by decide)).1
theorem zl_180 {S : z_Shp} (h : z_L S) : z_l S 180 = 109 := (h.2 180 (by decide)).2.1
theorem zk_181 {S : z_Shp} (h : z_L S) : z_k S 181 = 21 := (h.2 181 (by decide)).1
theorem zl_181 {S : z_Shp} (h : z_L S) : z_l S 181 = 109 := (h.2 181 (by decide)).2.1
theorem zk_182 {S : z_Shp} (h : z_L S) : z_k S 182 = 21 := (h.2 182 (by decide)).1
theorem zl_182 {S : z_Shp} (h : z_L S) : z_l S 182 = 109 := (h.2 182 (by decide)).2.1
theorem zk_183 {S : z_Shp} (h : z_L S) : z_k S 183 = 21 := (h.2 183 (by decide)).1
theorem zl_183 {S : z_Shp} (h : z_L S) : z_l S 183 = 109 := (h.2 183 (by decide)).2.1
theorem zk_184 {S : z_Shp} (h : z_L S) : z_k S 184 = 21 := (h.2 184 (by decide)).1
theorem zl_184 {S : z_Shp} (h : z_L S) : z_l S 184 = 256 := (h.2 184 (by decide)).2.1
theorem zk_185 {S : z_Shp} (h : z_L S) : z_k S 185 = 21 := (h.2 185 (by decide)).1
theorem zl_185 {S : z_Shp} (h : z_L S) : z_l S 185 = 256 := (h.2 185 (by decide)).2.1
theorem zk_186 {S : z_Shp} (h : z_L S) : z_k S 186 = 2 := (h.2 186 (by decide)).1
theorem zk_187 {S : z_Shp} (h : z_L S) : z_k S 187 = 21 := (h.2 187 (by decide)).1
theorem zl_187 {S : z_Shp} (h : z_L S) : z_l S 187 = 321 := (h.2 187 (by decide)).2.1
theorem zk_188 {S : z_Shp} (h : z_L S) : z_k S 188 = 21 := (h.2 188 (by decide)).1
theorem zl_188 {S : z_Shp} (h : z_L S) : z_l S 188 = 321 := (h.2 188 (by decide)).2.1
theorem zk_189 {S : z_Shp} (h : z_L S) : z_k S 189 = 21 := (h.2 189 (by decide)).1
theorem zl_189 {S : z_Shp} (h : z_L S) : z_l S 189 = 321 := (h.2 189 (by decide)).2.1
theorem zk_190 {S : z_Shp} (h : z_L S) : z_k S 190 = 21 := (h.2 190 (by decide)).1
theorem zl_190 {S : z_Shp} (h : z_L S) : z_l S 190 = 109 := (h.2 190 (by decide)).2.1
theorem zk_191 {S : z_Shp} (h : z_L S) : z_k S 191 = 21 := (h.2 191 (by decide)).1
theorem zl_191 {S : z_Shp} (h : z_L S) : z_l S 191 = 109 := (h.2 191 (by decide)).2.1
theorem zk_192 {S : z_Shp} (h : z_L S) : z_k S 192 = 21 := (h.2 192 (by decide)).1
theorem zl_192 {S : z_Shp} (h : z_L S) : z_l S 192 = 109 := (h.2 192 (by decide)).2.1
theorem zk_193 {S : z_Shp} (h : z_L S) : z_k S 193 = 21 := (h.2 193 (by decide)).1
theorem zl_193 {S : z_Shp} (h : z_L S) : z_l S 193 = 109 := (h.2 193 (by decide)).2.1
theorem zk_194 {S : z_Shp} (h : z_L S) : z_k S 194 = 21 := (h.2 194 (by decide)).1
theorem zl_194 {S : z_Shp} (h : z_L S) : z_l S 194 = 109 := (h.2 194 (by decide)).2.1
theorem zk_195 {S : z_Shp} (h : z_L S) : z_k S 195 = 4 := (h.2 195 (by decide)).1
theorem zk_196 {S : z_Shp} (h : z_L S) : z_k S 196 = 21 := (h.2 196 (by decide)).1
theorem zl_196 {S : z_Shp} (h : z_L S) : z_l S 196 = 26 := (h.2 196 (by decide)).2.1
theorem zk_197 {S : z_Shp} (h : z_L S) : z_k S 197 = 21 := (h.2 197 (by decide)).1
theorem zl_197 {S : z_Shp} (h : z_L S) : z_l S 197 = 160 := (h.2 197 (by decide)).2.1
theorem zk_198 {S : z_Shp} (h : z_L S) : z_k S 198 = 8 := (h.2 198 (by decide)).1
theorem zk_199 {S : z_Shp} (h : z_L S) : z_k S 199 = 21 := (h.2 199 (by decide)).1
theorem zl_199 {S : z_Shp} (h : z_L S) : z_l S 199 = 14 := (h.2 199 (by decide)).2.1
theorem zk_200 {S : z_Shp} (h : z_L S) : z_k S 200 = 21 := (h.2 200 (by decide)).1
theorem zl_200 {S : z_Shp} (h : z_L S) : z_l S 200 = 4 := (h.2 200 (by decide)).2.1
theorem zk_201 {S : z_Shp} (h : z_L S) : z_k S 201 = 21 := (h.2 201 (by decide)).1
theorem zl_201 {S : z_Shp} (h : z_L S) : z_l S 201 = 321 := (h.2 201 (by decide)).2.1
theorem zk_202 {S : z_Shp} (h : z_L S) : z_k S 202 = 21 := (h.2 202 (by decide)).1
theorem zl_202 {S : z_Shp} (h : z_L S) : z_l S 202 = 11 := (h.2 202 (by decide)).2.1
theorem zk_203 {S : z_Shp} (h : z_L S) : z_k S 203 = 1 := (h.2 203 (by decide)).1
theorem zk_204 {S : z_Shp} (h : z_L S) : z_k S 204 = 21 := (h.2 204 (by decide)).1
theorem zl_204 {S : z_Shp} (h : z_L S) : z_l S 204 = 2 := (h.2 204 (by decide)).2.1
theorem zk_205 {S : z_Shp} (h : z_L S) : z_k S 205 = 21 := (h.2 205 (by decide)).1
theorem zl_205 {S : z_Shp} (h : z_L S) : z_l S 205 = 2 := (h.2 205 (by decide)).2.1
theorem zk_206 {S : z_Shp} (h : z_L S) : z_k S 206 = 25 := (h.2 206 (by decide)).1
theorem zl_206 {S : z_Shp} (h : z_L S) : z_l S 206 = 2 := (h.2 206 (by decide)).2.1
theorem zk_207 {S : z_Shp} (h : z_L S) : z_k S 207 = 21 := (h.2 207 (by decide)).1
theorem zl_207 {S : z_Shp} (h : z_L S) : z_l S 207 = 8 := (h.2 207 (by decide)).2.1
theorem zk_208 {S : z_Shp} (h : z_L S) : z_k S 208 = 21 := (h.2 208 (by decide)).1
theorem zl_208 {S : z_Shp} (h : z_L S) : z_l S 208 = 8 := (h.2 208 (by decide)).2.1
theorem zk_209 {S : z_Shp} (h : z_L S) : z_k S 209 = 21 := (h.2 209 (by decide)).1
theorem zl_209 {S : z_Shp} (h : z_L S) : z_l S 209 = 25 := (h.2 209 (by decide)).2.1
theorem zk_210 {S : z_Shp} (h : z_L S) : z_k S 210 = 25 := (h.2 210 (by decide)).1
theorem zl_210 {S : z_Shp} (h : z_L S) : z_l S 210 = 2 := (h.2 210 (by decide)).2.1
theorem zk_211 {S : z_Shp} (h : z_L S) : z_k S 211 = 21 := (h.2 211 (by decide)).1
theorem zl_211 {S : z_Shp} (h : z_L S) : z_l S 211 = 12 := (h.2 211 (by decide)).2.1
theorem zk_212 {S : z_Shp} (h : z_L S) : z_k S 212 = 21 := (h.2 212 (by decide)).1
theorem zl_212 {S : z_Shp} (h : z_L S) : z_l S 212 = 12 := (h.2 212 (by decide)).2.1
theorem zk_213 {S : z_Shp} (h : z_L S) : z_k S 213 = 1 := (h.2 213 (by decide)).1
theorem zk_214 {S : z_Shp} (h : z_L S) : z_k S 214 = 21 := (h.2 214 (by decide)).1
theorem zl_214 {S : z_Shp} (h : z_L S) : z_l S 214 = 2 := (h.2 214 (by decide)).2.1
theorem zk_215 {S : z_Shp} (h : z_L S) : z_k S 215 = 21 := (h.2 215 (by decide)).1
theorem zl_215 {S : z_Shp} (h : z_L S) : z_l S 215 = 2 := (h.2 215 (by decide)).2.1
theorem zk_216 {S : z_Shp} (h : z_L S) : z_k S 216 = 25 := (h.2 216 (by decide)).1
theorem zl_216 {S : z_Shp} (h : z_L S) : z_l S 216 = 2 := (h.2 216 (by decide)).2.1
theorem zk_217 {S : z_Shp} (h : z_L S) : z_k S 217 = 21 := (h.2 217 (by decide)).1
theorem zl_217 {S : z_Shp} (h : z_L S) : z_l S 217 = 8 := (h.2 217 (by decide)).2.1
theorem zk_218 {S : z_Shp} (h : z_L S) : z_k S 218 = 21 := (h.2 218 (by decide)).1
theorem zl_218 {S : z_Shp} (h : z_L S) : z_l S 218 = 8 := (h.2 218 (by decide)).2.1
theorem zk_219 {S : z_Shp} (h : z_L S) : z_k S 219 = 21 := (h.2 219 (by decide)).1
theorem zl_219 {S : z_Shp} (h : z_L S) : z_l S 219 = 25 := (h.2 219 (by decide)).2.1
theorem zk_220 {S : z_Shp} (h : z_L S) : z_k S 220 = 25 := (h.2 220 (by decide)).1
theorem zl_220 {S : z_Shp} (h : z_L S) : z_l S 220 = 2 := (h.2 220 (by decide)).2.1
theorem zk_221 {S : z_Shp} (h : z_L S) : z_k S 221 = 21 := (h.2 221 (by decide)).1
theorem zl_221 {S : z_Shp} (h : z_L S) : z_l S 221 = 12 := (h.2 221 (by decide)).2.1
theorem zk_222 {S : z_Shp} (h : z_L S) : z_k S 222 = 21 := (h.2 222 (by decide)).1
theorem zl_222 {S : z_Shp} (h : z_L S) : z_l S 222 = 12 := (h.2 222 (by decide)).2.1
theorem zk_223 {S : z_Shp} (h : z_L S) : z_k S 223 = 12 := (h.2 223 (by decide)).1
theorem zk_224 {S : z_Shp} (h : z_L S) : z_k S 224 = 21 := (h.2 224 (by decide)).1
theorem zl_224 {S : z_Shp} (h : z_L S) : z_l S 224 = 71 := (h.2 224 (by decide)).2.1
theorem zk_225 {S : z_Shp} (h : z_L S) : z_k S 225 = 21 := (h.2 225 (by decide)).1
theorem zl_225 {S : z_Shp} (h : z_L S) : z_l S 225 = 142 := (h.2 225 (by decide)).2.1
theorem zk_226 {S : z_Shp} (h : z_L S) : z_k S 226 = 21 := (h.2 226 (by decide)).1
theorem zl_226 {S : z_Shp} (h : z_L S) : z_l S 226 = 568 := (h.2 226 (by decide)).2.1
theorem zk_227 {S : z_Shp} (h : z_L S) : z_k S 227 = 21 := (h.2 227 (by decide)).1
theorem zl_227 {S : z_Shp} (h : z_L S) : z_l S 227 = 71 := (h.2 227 (by decide)).2.1
theorem zk_228 {S : z_Shp} (h : z_L S) : z_k S 228 = 23 := (h.2 228 (by decide)).1
theorem zl_228 {S : z_Shp} (h : z_L S) : z_l S 228 = 2 := (h.2 228 (by decide)).2.1
theorem zk_229 {S : z_Shp} (h : z_L S) : z_k S 229 = 22 := (h.2 229 (by decide)).1
theorem zl_229 {S : z_Shp} (h : z_L S) : z_l S 229 = 240 := (h.2 229 (by decide)).2.1
theorem zk_230 {S : z_Shp} (h : z_L S) : z_k S 230 = 21 := (h.2 230 (by decide)).1
theorem zl_230 {S : z_Shp} (h : z_L S) : z_l S 230 = 24 := (h.2 230 (by decide)).2.1
theorem zk_231 {S : z_Shp} (h : z_L S) : z_k S 231 = 21 := (h.2 231 (by decide)).1
theorem zl_231 {S : z_Shp} (h : z_L S) : z_l S 231 = 24 := (h.2 231 (by decide)).2.1
theorem zk_232 {S : z_Shp} (h : z_L S) : z_k S 232 = 21 := (h.2 232 (by decide)).1
theorem zl_232 {S : z_Shp} (h : z_L S) : z_l S 232 = 24 := (h.2 232 (by decide)).2.1
theorem zk_233 {S : z_Shp} (h : z_L S) : z_k S 233 = 21 := (h.2 233 (by decide)).1
theorem zl_233 {S : z_Shp} (h : z_L S) : z_l S 233 = 50 := (h.2 233 (by decide)).2.1
theorem zk_234 {S : z_Shp} (h : z_L S) : z_k S 234 = 21 := (h.2 234 (by decide)).1
theorem zl_234 {S : z_Shp} (h : z_L S) : z_l S 234 = 128 := (h.2 234 (by decide)).2.1
theorem zk_235 {S : z_Shp} (h : z_L S) : z_k S 235 = 21 := (h.2 235 (by decide)).1
theorem zl_235 {S : z_Shp} (h : z_L S) : z_l S 235 = 2 := (h.2 235 (by decide)).2.1
theorem zk_236 {S : z_Shp} (h : z_L S) : z_k S 236 = 21 := (h.2 236 (by decide)).1
theorem zl_236 {S : z_Shp} (h : z_L S) : z_l S 236 = 2 := (h.2 236 (by decide)).2.1
theorem zk_237 {S : z_Shp} (h : z_L S) : z_k S 237 = 21 := (h.2 237 (by decide)).1
theorem zl_237 {S : z_Shp} (h : z_L S) : z_l S 237 = 2 := (h.2 237 (by decide)).2.1
theorem zk_238 {S : z_Shp} (h : z_L S) : z_k S 238 = 21 := (h.2 238 (by decide)).1
theorem zl_238 {S : z_Shp} (h : z_L S) : z_l S 238 = 321 := (h.2 238 (by decide)).2.1
theorem zk_239 {S : z_Shp} (h : z_L S) : z_k S 239 = 21 := (h.2 239 (by decide)).1
theorem zl_239 {S : z_Shp} (h : z_L S) : z_l S 239 = 321 := (h.2 239 (by decide)).2.1
theorem zk_240 {S : z_Shp} (h : z_L S) : z_k S 240 = 21 := (h.2 240 (by decide)).1
theorem zl_240 {S : z_Shp} (h : z_L S) : z_l S 240 = 321 := (h.2 240 (by decide)).2.1
theorem zk_241 {S : z_Shp} (h : z_L S) : z_k S 241 = 21 := (h.2 241 (by decide)).1
theorem zl_241 {S : z_Shp} (h : z_L S) : z_l S 241 = 109 := (h.2 241 (by decide)).2.1
theorem zk_242 {S : z_Shp} (h : z_L S) : z_k S 242 = 21 := (h.2 242 (by decide)).1
theorem zl_242 {S : z_Shp} (h : z_L S) : z_l S 242 = 108 := (h.2 242 (by decide)).2.1
theorem zk_243 {S : z_Shp} (h : z_L S) : z_k S 243 = 21 := (h.2 243 (by decide)).1
theorem zl_243 {S : z_Shp} (h : z_L S) : z_l S 243 = 321 := (h.2 243 (by decide)).2.1
theorem zk_244 {S : z_Shp} (h : z_L S) : z_k S 244 = 21 := (h.2 244 (by decide)).1
theorem zl_244 {S : z_Shp} (h : z_L S) : z_l S 244 = 16384 := (h.2 244 (by decide)).2.1
theorem zk_245 {S : z_Shp} (h : z_L S) : z_k S 245 = 21 := (h.2 245 (by decide)).1
theorem zl_245 {S : z_Shp} (h : z_L S) : z_l S 245 = 16384 := (h.2 245 (by decide)).2.1
theorem zk_246 {S : z_Shp} (h : z_L S) : z_k S 246 = 21 := (h.2 246 (by decide)).1
theorem zl_246 {S : z_Shp} (h : z_L S) : z_l S 246 = 225 := (h.2 246 (by decide)).2.1
theorem zk_247 {S : z_Shp} (h : z_L S) : z_k S 247 = 21 := (h.2 247 (by decide)).1
theorem zl_247 {S : z_Shp} (h : z_L S) : z_l S 247 = 14 := (h.2 247 (by decide)).2.1
theorem zk_248 {S : z_Shp} (h : z_L S) : z_k S 248 = 21 := (h.2 248 (by decide)).1
theorem zl_248 {S : z_Shp} (h : z_L S) : z_l S 248 = 14 := (h.2 248 (by decide)).2.1
theorem zk_249 {S : z_Shp} (h : z_L S) : z_k S 249 = 21 := (h.2 249 (by decide)).1
theorem zl_249 {S : z_Shp} (h : z_L S) : z_l S 249 = 321 := (h.2 249 (by decide)).2.1
theorem zk_250 {S : z_Shp} (h : z_L S) : z_k S 250 = 21 := (h.2 250 (by decide)).1
theorem zl_250 {S : z_Shp} (h : z_L S) : z_l S 250 = 109 := (h.2 250 (by decide)).2.1
theorem zk_251 {S : z_Shp} (h : z_L S) : z_k S 251 = 21 := (h.2 251 (by decide)).1
theorem zl_251 {S : z_Shp} (h : z_L S) : z_l S 251 = 109 := (h.2 251 (by decide)).2.1
theorem zk_252 {S : z_Shp} (h : z_L S) : z_k S 252 = 21 := (h.2 252 (by decide)).1
theorem zl_252 {S : z_Shp} (h : z_L S) : z_l S 252 = 109 := (h.2 252 (by decide)).2.1
theorem zk_253 {S : z_Shp} (h : z_L S) : z_k S 253 = 21 := (h.2 253 (by decide)).1
theorem zl_253 {S : z_Shp} (h : z_L S) : z_l S 253 = 109 := (h.2 253 (by decide)).2.1
theorem zk_254 {S : z_Shp} (h : z_L S) : z_k S 254 = 23 := (h.2 254 (by decide)).1
theorem zl_254 {S : z_Shp} (h : z_L S) : z_l S 254 = 321 := (h.2 254 (by decide)).2.1
theorem zk_255 {S : z_Shp} (h : z_L S) : z_k S 255 = 23 := (h.2 255 (by decide)).1
theorem zl_255 {S : z_Shp} (h : z_L S) : z_l S 255 = 109 := (h.2 255 (by decide)).2.1
theorem zk_256 {S : z_Shp} (h : z_L S) : z_k S 256 = 21 := (h.2 256 (by decide)).1
theorem zl_256 {S : z_Shp} (h : z_L S) : z_l S 256 = 4 := (h.2 256 (by decide)).2.1
theorem zk_257 {S : z_Shp} (h : z_L S) : z_k S 257 = 21 := (h.2 257 (by decide)).1
theorem zl_257 {S : z_Shp} (h : z_L S) : z_l S 257 = 109 := (h.2 257 (by decide)).2.1
theorem zk_258 {S : z_Shp} (h : z_L S) : z_k S 258 = 23 := (h.2 258 (by decide)).1
theorem zl_258 {S : z_Shp} (h : z_L S) : z_l S 258 = 321 := (h.2 258 (by decide)).2.1
theorem zk_259 {S : z_Shp} (h : z_L S) : z_k S 259 = 21 := (h.2 259 (by decide)).1
theorem zl_259 {S : z_Shp} (h : z_L S) : z_l S 259 = 52 := (h.2 259 (by decide)).2.1
theorem zk_260 {S : z_Shp} (h : z_L S) : z_k S 260 = 22 := (h.2 260 (by decide)).1
theorem zl_260 {S : z_Shp} (h : z_L S) : z_l S 260 = 11 := (h.2 260 (by decide)).2.1
theorem zk_261 {S : z_Shp} (h : z_L S) : z_k S 261 = 24 := (h.2 261 (by decide)).1
theorem zl_261 {S : z_Shp} (h : z_L S) : z_l S 261 = 1 := (h.2 261 (by decide)).2.1
theorem zr_0_0 {S : z_Shp} (h : z_L S) : z_r S 0 0 = some 1 := (h.2 0 (by decide)).2.2 0 1 rfl
theorem zr_0_1 {S : z_Shp} (h : z_L S) : z_r S 0 1 = some 19 := (h.2 0 (by decide)).2.2 1 19 rfl
theorem zr_0_2 {S : z_Shp} (h : z_L S) : z_r S 0 2 = some 37 := (h.2 0 (by decide)).2.2 2 37 rfl
theorem zr_0_3 {S : z_Shp} (h : z_L S) : z_r S 0 3 = some 47 := (h.2 0 (by decide)).2.2 3 47 rfl
theorem zr_0_4 {S : z_Shp} (h : z_L S) : z_r S 0 4 = some 57 := (h.2 0 (by decide)).2.2 4 57 rfl
theorem zr_0_5 {S : z_Shp} (h : z_L S) : z_r S 0 5 = some 58 := (h.2 0 (by decide)).2.2 5 58 rfl
theorem zr_0_6 {S : z_Shp} (h : z_L S) : z_r S 0 6 = some 59 := (h.2 0 (by decide)).2.2 6 59 rfl
theorem zr_0_7 {S : z_Shp} (h : z_L S) : z_r S 0 7 = some 141 := (h.2 0 (by decide)).2.2 7 141 rfl
theorem zr_0_8 {S : z_Shp} (h : z_L S) : z_r S 0 8 = some 149 := (h.2 0 (by decide)).2.2 8 149 rfl
theorem zr_0_9 {S : z_Shp} (h : z_L S) : z_r S 0 9 = some 158 := (h.2 0 (by decide)).2.2 9 158 rfl
theorem zr_0_10 {S : z_Shp} (h : z_L S) : z_r S 0 10 = some 164 := (h.2 0 (by decide)).2.2 10 164 rfl
theorem zr_0_11 {S : z_Shp} (h : z_L S) : z_r S 0 11 = some 186 := (h.2 0 (by decide)).2.2 11 186 rfl
theorem zr_0_12 {S : z_Shp} (h : z_L S) : z_r S 0 12 = some 195 := (h.2 0 (by decide)).2.2 12 195 rfl
theorem zr_0_13 {S : z_Shp} (h : z_L S) : z_r S 0 13 = some 198 := (h.2 0 (by decide)).2.2 13 198 rfl
theorem zr_1_3 {S : z_Shp} (h : z_L S) : z_r S 1 3 = some 2 := (h.2 1 (by decide)).2.2 3 2 rfl
theorem zr_1_4 {S : z_Shp} (h : z_L S) : z_r S 1 4 = some 5 := (h.2 1 (by decide)).2.2 4 5 rfl
theorem zr_1_5 {S : z_Shp} (h : z_L S) : z_r S 1 5 = some 8 := (h.2 1 (by decide)).2.2 5 8 rfl
theorem zr_1_6 {S : z_Shp} (h : z_L S) : z_r S 1 6 = some 11 := (h.2 1 (by decide)).2.2 6 11 rfl
theorem zr_1_7 {S : z_Shp} (h : z_L S) : z_r S 1 7 = some 14 := (h.2 1 (by decide)).2.2 7 14 rfl
theorem zr_1_8 {S : z_Shp} (h : z_L S) : z_r S 1 8 = some 17 := (h.2 1 (by decide)).2.2 8 17 rfl
theorem zr_1_9 {S : z_Shp} (h : z_L S) : z_r S 1 9 = some 18 := (h.2 1 (by decide)).2.2 9 18 rfl
theorem zr_2_0 {S : z_Shp} (h : z_L S) : z_r S 2 0 = some 3 := (h.2 2 (by decide)).2.2 0 3 rfl
theorem zr_2_1 {S : z_Shp} (h : z_L S) : z_r S 2 1 = some 4 := (h.2 2 (by decide)).2.2 1 4 rfl
theorem zr_5_0 {S : z_Shp} (h : z_L S) : z_r S 5 0 = some 6 := (h.2 5 (by decide)).2.2 0 6 rfl
theorem zr_5_1 {S : z_Shp} (h : z_L S) : z_r S 5 1 = some 7 := (h.2 5 (by decide)).2.2 1 7 rfl
theorem zr_8_0 {S : z_Shp} (h : z_L S) : z_r S 8 0 = some 9 := (h.2 8 (by decide)).2.2 0 9 rfl
theorem zr_8_1 {S : z_Shp} (h : z_L S) : z_r S 8 1 = some 10 := (h.2 8 (by decide)).2.2 1 10 rfl
theorem zr_11_0 {S : z_Shp} (h : z_L S) : z_r S 11 0 = some 12 := (h.2 11 (by decide)).2.2 0 12 rfl
theorem zr_11_1 {S : z_Shp} (h : z_L S) : z_r S 11 1 = some 13 := (h.2 11 (by decide)).2.2 1 13 rfl
theorem zr_14_0 {S : z_Shp} (h : z_L S) : z_r S 14 0 = some 15 := (h.2 14 (by decide)).2.2 0 15 rfl
theorem zr_14_1 {S : z_Shp} (h : z_L S) : z_r S 14 1 = some 16 := (h.2 14 (by decide)).2.2 1 16 rfl
theorem zr_19_3 {S : z_Shp} (h : z_L S) : z_r S 19 3 = some 20 := (h.2 19 (by decide)).2.2 3 20 rfl
theorem zr_19_4 {S : z_Shp} (h : z_L S) : z_r S 19 4 = some 23 := (h.2 19 (by decide)).2.2 4 23 rfl
theorem zr_19_5 {S : z_Shp} (h : z_L S) : z_r S 19 5 = some 26 := (h.2 19 (by decide)).2.2 5 26 rfl
theorem zr_19_6 {S : z_Shp} (h : z_L S) : z_r S 19 6 = some 29 := (h.2 19 (by decide)).2.2 6 29 rfl
theorem zr_19_7 {S : z_Shp} (h : z_L S) : z_r S 19 7 = some 32 := (h.2 19 (by decide)).2.2 7 32 rfl
theorem zr_19_8 {S : z_Shp} (h : z_L S) : z_r S 19 8 = some 35 := (h.2 19 (by decide)).2.2 8 35 rfl
theorem zr_19_9 {S : z_Shp} (h : z_L S) : z_r S 19 9 = some 36 := (h.2 19 (by decide)).2.2 9 36 rfl
theorem zr_20_0 {S : z_Shp} (h : z_L S) : z_r S 20 0 = some 21 := (h.2 20 (by decide)).2.2 0 21 rfl
theorem zr_20_1 {S : z_Shp} (h : z_L S) : z_r S 20 1 = some 22 := (h.2 20 (by decide)).2.2 1 22 rfl
theorem zr_23_0 {S : z_Shp} (h : z_L S) : z_r S 23 0 = some 24 := (h.2 23 (by decide)).2.2 0 24 rfl
theorem zr_23_1 {S : z_Shp} (h : z_L S) : z_r S 23 1 = some 25 := (h.2 23 (by decide)).2.2 1 25 rfl
theorem zr_26_0 {S : z_Shp} (h : z_L S) : z_r S 26 0 = some 27 := (h.2 26 (by decide)).2.2 0 27 rfl
theorem zr_26_1 {S : z_Shp} (h : z_L S) : z_r S 26 1 = some 28 := (h.2 26 (by decide)).2.2 1 28 rfl
theorem zr_29_0 {S : z_Shp} (h : z_L S) : z_r S 29 0 = some 30 := (h.2 29 (by decide)).2.2 0 30 rfl
theorem zr_29_1 {S : z_Shp} (h : z_L S) : z_r S 29 1 = some 31 := (h.2 29 (by decide)).2.2 1 31 rfl
theorem zr_32_0 {S : z_Shp} (h : z_L S) : z_r S 32 0 = some 33 := (h.2 32 (by decide)).2.2 0 33 rfl
theorem zr_32_1 {S : z_Shp} (h : z_L S) : z_r S 32 1 = some 34 := (h.2 32 (by decide)).2.2 1 34 rfl
theorem zr_37_2 {S : z_Shp} (h : z_L S) : z_r S 37 2 = some 38 := (h.2 37 (by decide)).2.2 2 38 rfl
theorem zr_37_3 {S : z_Shp} (h : z_L S) : z_r S 37 3 = some 39 := (h.2 37 (by decide)).2.2 3 39 rfl
theorem zr_37_4 {S : z_Shp} (h : z_L S) : z_r S 37 4 = some 40 := (h.2 37 (by decide)).2.2 4 40 rfl
theorem zr_37_5 {S : z_Shp} (h : z_L S) : z_r S 37 5 = some 43 := (h.2 37 (by decide)).2.2 5 43 rfl
theorem zr_37_6 {S : z_Shp} (h : z_L S) : z_r S 37 6 = some 44 := (h.2 37 (by decide)).2.2 6 44 rfl
theorem zr_40_0 {S : z_Shp} (h : z_L S) : z_r S 40 0 = some 41 := (h.2 40 (by decide)).2.2 0 41 rfl
theorem zr_40_1 {S : z_Shp} (h : z_L S) : z_r S 40 1 = some 42 := (h.2 40 (by decide)).2.2 1 42 rfl
theorem zr_44_0 {S : z_Shp} (h : z_L S) : z_r S 44 0 = some 45 := (h.2 44 (by decide)).2.2 0 45 rfl
theorem zr_44_1 {S : z_Shp} (h : z_L S) : z_r S 44 1 = some 46 := (h.2 44 (by decide)).2.2 1 46 rfl
theorem zr_47_2 {S : z_Shp} (h : z_L S) : z_r S 47 2 = some 48 := (h.2 47 (by decide)).2.2 2 48 rfl
theorem zr_47_3 {S : z_Shp} (h : z_L S) : z_r S 47 3 = some 49 := (h.2 47 (by decide)).2.2 3 49 rfl
theorem zr_47_4 {S : z_Shp} (h : z_L S) : z_r S 47 4 = some 50 := (h.2 47 (by decide)).2.2 4 50 rfl
theorem zr_47_5 {S : z_Shp} (h : z_L S) : z_r S 47 5 = some 53 := (h.2 47 (by decide)).2.2 5 53 rfl
theorem zr_47_6 {S : z_Shp} (h : z_L S) : z_r S 47 6 = some 54 := (h.2 47 (by decide)).2.2 6 54 rfl
theorem zr_50_0 {S : z_Shp} (h : z_L S) : z_r S 50 0 = some 51 := (h.2 50 (by decide)).2.2 0 51 rfl
theorem zr_50_1 {S : z_Shp} (h : z_L S) : z_r S 50 1 = some 52 := (h.2 50 (by decide)).2.2 1 52 rfl
theorem zr_54_0 {S : z_Shp} (h : z_L S) : z_r S 54 0 = some 55 := (h.2 54 (by decide)).2.2 0 55 rfl
theorem zr_54_1 {S : z_Shp} (h : z_L S) : z_r S 54 1 = some 56 := (h.2 54 (by decide)).2.2 1 56 rfl
theorem zr_57_0 {S : z_Shp} (h : z_L S) : z_r S 57 0 = some 203 := (h.2 57 (by decide)).2.2 0 203 rfl
theorem zr_57_1 {S : z_Shp} (h : z_L S) : z_r S 57 1 = some 213 := (h.2 57 (by decide)).2.2 1 213 rfl
theorem zr_59_2 {S : z_Shp} (h : z_L S) : z_r S 59 2 = some 60 := (h.2 59 (by decide)).2.2 2 60 rfl
theorem zr_60_0 {S : z_Shp} (h : z_L S) : z_r S 60 0 = some 61 := (h.2 60 (by decide)).2.2 0 61 rfl
theorem zr_60_1 {S : z_Shp} (h : z_L S) : z_r S 60 1 = some 71 := (h.2 60 (by decide)).2.2 1 71 rfl
theorem zr_60_2 {S : z_Shp} (h : z_L S) : z_r S 60 2 = some 81 := (h.2 60 (by decide)).2.2 2 81 rfl
theorem zr_60_3 {S : z_Shp} (h : z_L S) : z_r S 60 3 = some 91 := (h.2 60 (by decide)).2.2 3 91 rfl
theorem zr_60_4 {S : z_Shp} (h : z_L S) : z_r S 60 4 = some 101 := (h.2 60 (by decide)).2.2 4 101 rfl
theorem zr_60_5 {S : z_Shp} (h : z_L S) : z_r S 60 5 = some 111 := (h.2 60 (by decide)).2.2 5 111 rfl
theorem zr_60_6 {S : z_Shp} (h : z_L S) : z_r S 60 6 = some 121 := (h.2 60 (by decide)).2.2 6 121 rfl
theorem zr_60_7 {S : z_Shp} (h : z_L S) : z_r S 60 7 = some 131 := (h.2 60 (by decide)).2.2 7 131 rfl
theorem zr_61_2 {S : z_Shp} (h : z_L S) : z_r S 61 2 = some 62 := (h.2 61 (by decide)).2.2 2 62 rfl
theorem zr_61_3 {S : z_Shp} (h : z_L S) : z_r S 61 3 = some 63 := (h.2 61 (by decide)).2.2 3 63 rfl
theorem zr_61_4 {S : z_Shp} (h : z_L S) : z_r S 61 4 = some 64 := (h.2 61 (by decide)).2.2 4 64 rfl
theorem zr_61_5 {S : z_Shp} (h : z_L S) : z_r S 61 5 = some 67 := (h.2 61 (by decide)).2.2 5 67 rfl
theorem zr_61_6 {S : z_Shp} (h : z_L S) : z_r S 61 6 = some 68 := (h.2 61 (by decide)).2.2 6 68 rfl
theorem zr_64_0 {S : z_Shp} (h : z_L S) : z_r S 64 0 = some 65 := (h.2 64 (by decide)).2.2 0 65 rfl
theorem zr_64_1 {S : z_Shp} (h : z_L S) : z_r S 64 1 = some 66 := (h.2 64 (by decide)).2.2 1 66 rfl
theorem zr_68_0 {S : z_Shp} (h : z_L S) : z_r S 68 0 = some 69 := (h.2 68 (by decide)).2.2 0 69 rfl
theorem zr_68_1 {S : z_Shp} (h : z_L S) : z_r S 68 1 = some 70 := (h.2 68 (by decide)).2.2 1 70 rfl
theorem zr_71_2 {S : z_Shp} (h : z_L S) : z_r S 71 2 = some 72 := (h.2 71 (by decide)).2.2 2 72 rfl
theorem zr_71_3 {S : z_Shp} (h : z_L S) : z_r S 71 3 = some 73 := (h.2 71 (by decide)).2.2 3 73 rfl
theorem zr_71_4 {S : z_Shp} (h : z_L S) : z_r S 71 4 = some 74 := (h.2 71 (by decide)).2.2 4 74 rfl
theorem zr_71_5 {S : z_Shp} (h : z_L S) : z_r S 71 5 = some 77 := (h.2 71 (by decide)).2.2 5 77 rfl
theorem zr_71_6 {S : z_Shp} (h : z_L S) : z_r S 71 6 = some 78 := (h.2 71 (by decide)).2.2 6 78 rfl
theorem zr_74_0 {S : z_Shp} (h : z_L S) : z_r S 74 0 = some 75 := (h.2 74 (by decide)).2.2 0 75 rfl
theorem zr_74_1 {S : z_Shp} (h : z_L S) : z_r S 74 1 = some 76 := (h.2 74 (by decide)).2.2 1 76 rfl
theorem zr_78_0 {S : z_Shp} (h : z_L S) : z_r S 78 0 = some 79 := (h.2 78 (by decide)).2.2 0 79 rfl
theorem zr_78_1 {S : z_Shp} (h : z_L S) : z_r S 78 1 = some 80 := (h.2 78 (by decide)).2.2 1 80 rfl
theorem zr_81_2 {S : z_Shp} (h : z_L S) : z_r S 81 2 = some 82 := (h.2 81 (by decide)).2.2 2 82 rfl
theorem zr_81_3 {S : z_Shp} (h : z_L S) : z_r S 81 3 = some 83 := (h.2 81 (by decide)).2.2 3 83 rfl
theorem zr_81_4 {S : z_Shp} (h : z_L S) : z_r S 81 4 = some 84 := (h.2 81 (by decide)).2.2 4 84 rfl
theorem zr_81_5 {S : z_Shp} (h : z_L S) : z_r S 81 5 = some 87 := (h.2 81 (by decide)).2.2 5 87 rfl
theorem zr_81_6 {S : z_Shp} (h : z_L S) : z_r S 81 6 = some 88 := (h.2 81 (by decide)).2.2 6 88 rfl
theorem zr_84_0 {S : z_Shp} (h : z_L S) : z_r S 84 0 = some 85 := (h.2 84 (by decide)).2.2 0 85 rfl
theorem zr_84_1 {S : z_Shp} (h : z_L S) : z_r S 84 1 = some 86 := (h.2 84 (by decide)).2.2 1 86 rfl
theorem zr_88_0 {S : z_Shp} (h : z_L S) : z_r S 88 0 = some 89 := (h.2 88 (by decide)).2.2 0 89 rfl
theorem zr_88_1 {S : z_Shp} (h : z_L S) : z_r S 88 1 = some 90 := (h.2 88 (by decide)).2.2 1 90 rfl
theorem zr_91_2 {S : z_Shp} (h : z_L S) : z_r S 91 2 = some 92 := (h.2 91 (by decide)).2.2 2 92 rfl
theorem zr_91_3 {S : z_Shp} (h : z_L S) : z_r S 91 3 = some 93 := (h.2 91 (by decide)).2.2 3 93 rfl
theorem zr_91_4 {S : z_Shp} (h : z_L S) : z_r S 91 4 = some 94 := (h.2 91 (by decide)).2.2 4 94 rfl
theorem zr_91_5 {S : z_Shp} (h : z_L S) : z_r S 91 5 = some 97 := (h.2 91 (by decide)).2.2 5 97 rfl
theorem zr_91_6 {S : z_Shp} (h : z_L S) : z_r S 91 6 = some 98 := (h.2 91 (by decide)).2.2 6 98 rfl
theorem zr_94_0 {S : z_Shp} (h : z_L S) : z_r S 94 0 = some 95 := (h.2 94 (by decide)).2.2 0 95 rfl
theorem zr_94_1 {S : z_Shp} (h : z_L S) : z_r S 94 1 = some 96 := (h.2 94 (by decide)).2.2 1 96 rfl
theorem zr_98_0 {S : z_Shp} (h : z_L S) : z_r S 98 0 = some 99 := (h.2 98 (by decide)).2.2 0 99 rfl
theorem zr_98_1 {S : z_Shp} (h : z_L S) : z_r S 98 1 = some 100 := (h.2 98 (by decide)).2.2 1 100 rfl
theorem zr_101_2 {S : z_Shp} (h : z_L S) : z_r S 101 2 = some 102 := (h.2 101 (by decide)).2.2 2 102 rfl
theorem zr_101_3 {S : z_Shp} (h : z_L S) : z_r S 101 3 = some 103 := (h.2 101 (by decide)).2.2 3 103 rfl
theorem zr_101_4 {S : z_Shp} (h : z_L S) : z_r S 101 4 = some 104 := (h.2 101 (by decide)).2.2 4 104 rfl
theorem zr_101_5 {S : z_Shp} (h : z_L S) : z_r S 101 5 = some 107 := (h.2 101 (by decide)).2.2 5 107 rfl
theorem zr_101_6 {S : z_Shp} (h : z_L S) : z_r S 101 6 = some 108 := (h.2 101 (by decide)).2.2 6 108 rfl
theorem zr_104_0 {S : z_Shp} (h : z_L S) : z_r S 104 0 = some 105 := (h.2 104 (by decide)).2.2 0 105 rfl
theorem zr_104_1 {S : z_Shp} (h : z_L S) : z_r S 104 1 = some 106 := (h.2 104 (by decide)).2.2 1 106 rfl
theorem zr_108_0 {S : z_Shp} (h : z_L S) : z_r S 108 0 = some 109 := (h.2 108 (by decide)).2.2 0 109 rfl
theorem zr_108_1 {S : z_Shp} (h : z_L S) : z_r S 108 1 = some 110 := (h.2 108 (by decide)).2.2 1 110 rfl
theorem zr_111_2 {S : z_Shp} (h : z_L S) : z_r S 111 2 = some 112 := (h.2 111 (by decide)).2.2 2 112 rfl
theorem zr_111_3 {S : z_Shp} (h : z_L S) : z_r S 111 3 = some 113 := (h.2 111 (by decide)).2.2 3 113 rfl
theorem zr_111_4 {S : z_Shp} (h : z_L S) : z_r S 111 4 = some 114 := (h.2 111 (by decide)).2.2 4 114 rfl
theorem zr_111_5 {S : z_Shp} (h : z_L S) : z_r S 111 5 = some 117 := (h.2 111 (by decide)).2.2 5 117 rfl
theorem zr_111_6 {S : z_Shp} (h : z_L S) : z_r S 111 6 = some 118 := (h.2 111 (by decide)).2.2 6 118 rfl
theorem zr_114_0 {S : z_Shp} (h : z_L S) : z_r S 114 0 = some 115 := (h.2 114 (by decide)).2.2 0 115 rfl
theorem zr_114_1 {S : z_Shp} (h : z_L S) : z_r S 114 1 = some 116 := (h.2 114 (by decide)).2.2 1 116 rfl
theorem zr_118_0 {S : z_Shp} (h : z_L S) : z_r S 118 0 = some 119 := (h.2 118 (by decide)).2.2 0 119 rfl
theorem zr_118_1 {S : z_Shp} (h : z_L S) : z_r S 118 1 = some 120 := (h.2 118 (by decide)).2.2 1 120 rfl
theorem zr_121_2 {S : z_Shp} (h : z_L S) : z_r S 121 2 = some 122 := (h.2 121 (by decide)).2.2 2 122 rfl
theorem zr_121_3 {S : z_Shp} (h : z_L S) : z_r S 121 3 = some 123 := (h.2 121 (by decide)).2.2 3 123 rfl
theorem zr_121_4 {S : z_Shp} (h : z_L S) : z_r S 121 4 = some 124 := (h.2 121 (by decide)).2.2 4 124 rfl
theorem zr_121_5 {S : z_Shp} (h : z_L S) : z_r S 121 5 = some 127 := (h.2 121 (by decide)).2.2 5 127 rfl
theorem zr_121_6 {S : z_Shp} (h : z_L S) : z_r S 121 6 = some 128 := (h.2 121 (by decide)).2.2 6 128 rfl
theorem zr_124_0 {S : z_Shp} (h : z_L S) : z_r S 124 0 = some 125 := (h.2 124 (by decide)).2.2 0 125 rfl
theorem zr_124_1 {S : z_Shp} (h : z_L S) : z_r S 124 1 = some 126 := (h.2 124 (by decide)).2.2 1 126 rfl
theorem zr_128_0 {S : z_Shp} (h : z_L S) : z_r S 128 0 = some 129 := (h.2 128 (by decide)).2.2 0 129 rfl
theorem zr_128_1 {S : z_Shp} (h : z_L S) : z_r S 128 1 = some 130 := (h.2 128 (by decide)).2.2 1 130 rfl
theorem zr_131_2 {S : z_Shp} (h : z_L S) : z_r S 131 2 = some 132 := (h.2 131 (by decide)).2.2 2 132 rfl
theorem zr_131_3 {S : z_Shp} (h : z_L S) : z_r S 131 3 = some 133 := (h.2 131 (by decide)).2.2 3 133 rfl
theorem zr_131_4 {S : z_Shp} (h : z_L S) : z_r S 131 4 = some 134 := (h.2 131 (by decide)).2.2 4 134 rfl
theorem zr_131_5 {S : z_Shp} (h : z_L S) : z_r S 131 5 = some 137 := (h.2 131 (by decide)).2.2 5 137 rfl
theorem zr_131_6 {S : z_Shp} (h : z_L S) : z_r S 131 6 = some 138 := (h.2 131 (by decide)).2.2 6 138 rfl
theorem zr_134_0 {S : z_Shp} (h : z_L S) : z_r S 134 0 = some 135 := (h.2 134 (by decide)).2.2 0 135 rfl
theorem zr_134_1 {S : z_Shp} (h : z_L S) : z_r S 134 1 = some 136 := (h.2 134 (by decide)).2.2 1 136 rfl
theorem zr_138_0 {S : z_Shp} (h : z_L S) : z_r S 138 0 = some 139 := (h.2 138 (by decide)).2.2 0 139 rfl
theorem zr_138_1 {S : z_Shp} (h : z_L S) : z_r S 138 1 = some 140 := (h.2 138 (by decide)).2.2 1 140 rfl
theorem zr_141_3 {S : z_Shp} (h : z_L S) : z_r S 141 3 = some 142 := (h.2 141 (by decide)).2.2 3 142 rfl
theorem zr_141_4 {S : z_Shp} (h : z_L S) : z_r S 141 4 = some 143 := (h.2 141 (by decide)).2.2 4 143 rfl
theorem zr_141_5 {S : z_Shp} (h : z_L S) : z_r S 141 5 = some 144 := (h.2 141 (by decide)).2.2 5 144 rfl
theorem zr_141_6 {S : z_Shp} (h : z_L S) : z_r S 141 6 = some 145 := (h.2 141 (by decide)).2.2 6 145 rfl
theorem zr_141_7 {S : z_Shp} (h : z_L S) : z_r S 141 7 = some 146 := (h.2 141 (by decide)).2.2 7 146 rfl
theorem zr_141_8 {S : z_Shp} (h : z_L S) : z_r S 141 8 = some 147 := (h.2 141 (by decide)).2.2 8 147 rfl
theorem zr_141_9 {S : z_Shp} (h : z_L S) : z_r S 141 9 = some 148 := (h.2 141 (by decide)).2.2 9 148 rfl
theorem zr_149_4 {S : z_Shp} (h : z_L S) : z_r S 149 4 = some 150 := (h.2 149 (by decide)).2.2 4 150 rfl
theorem zr_149_5 {S : z_Shp} (h : z_L S) : z_r S 149 5 = some 151 := (h.2 149 (by decide)).2.2 5 151 rfl
theorem zr_149_6 {S : z_Shp} (h : z_L S) : z_r S 149 6 = some 152 := (h.2 149 (by decide)).2.2 6 152 rfl
theorem zr_149_7 {S : z_Shp} (h : z_L S) : z_r S 149 7 = some 153 := (h.2 149 (by decide)).2.2 7 153 rfl
theorem zr_149_8 {S : z_Shp} (h : z_L S) : z_r S 149 8 = some 154 := (h.2 149 (by decide)).2.2 8 154 rfl
theorem zr_149_9 {S : z_Shp} (h : z_L S) : z_r S 149 9 = some 155 := (h.2 149 (by decide)).2.2 9 155 rfl
theorem zr_149_10 {S : z_Shp} (h : z_L S) : z_r S 149 10 = some 156 := (h.2 149 (by decide)).2.2 10 156 rfl
theorem zr_149_11 {S : z_Shp} (h : z_L S) : z_r S 149 11 = some 157 := (h.2 149 (by decide)).2.2 11 157 rfl
theorem zr_158_2 {S : z_Shp} (h : z_L S) : z_r S 158 2 = some 159 := (h.2 158 (by decide)).2.2 2 159 rfl
theorem zr_158_3 {S : z_Shp} (h : z_L S) : z_r S 158 3 = some 160 := (h.2 158 (by decide)).2.2 3 160 rfl
theorem zr_158_4 {S : z_Shp} (h : z_L S) : z_r S 158 4 = some 161 := (h.2 158 (by decide)).2.2 4 161 rfl
theorem zr_158_5 {S : z_Shp} (h : z_L S) : z_r S 158 5 = some 162 := (h.2 158 (by decide)).2.2 5 162 rfl
theorem zr_158_6 {S : z_Shp} (h : z_L S) : z_r S 158 6 = some 163 := (h.2 158 (by decide)).2.2 6 163 rfl
theorem zr_164_3 {S : z_Shp} (h : z_L S) : z_r S 164 3 = some 165 := (h.2 164 (by decide)).2.2 3 165 rfl
theorem zr_164_4 {S : z_Shp} (h : z_L S) : z_r S 164 4 = some 166 := (h.2 164 (by decide)).2.2 4 166 rfl
theorem zr_164_5 {S : z_Shp} (h : z_L S) : z_r S 164 5 = some 167 := (h.2 164 (by decide)).2.2 5 167 rfl
theorem zr_164_6 {S : z_Shp} (h : z_L S) : z_r S 164 6 = some 168 := (h.2 164 (by decide)).2.2 6 168 rfl
theorem zr_168_0 {S : z_Shp} (h : z_L S) : z_r S 168 0 = some 169 := (h.2 168 (by decide)).2.2 0 169 rfl
theorem zr_168_1 {S : z_Shp} (h : z_L S) : z_r S 168 1 = some 170 := (h.2 168 (by decide)).2.2 1 170 rfl
theorem zr_168_2 {S : z_Shp} (h : z_L S) : z_r S 168 2 = some 171 := (h.2 168 (by decide)).2.2 2 171 rfl
theorem zr_168_3 {S : z_Shp} (h : z_L S) : z_r S 168 3 = some 172 := (h.2 168 (by decide)).2.2 3 172 rfl
theorem zr_168_4 {S : z_Shp} (h : z_L S) : z_r S 168 4 = some 173 := (h.2 168 (by decide)).2.2 4 173 rfl
theorem zr_168_5 {S : z_Shp} (h : z_L S) : z_r S 168 5 = some 174 := (h.2 168 (by decide)).2.2 5 174 rfl
theorem zr_168_6 {S : z_Shp} (h : z_L S) : z_r S 168 6 = some 175 := (h.2 168 (by decide)).2.2 6 175 rfl
theorem zr_168_7 {S : z_Shp} (h : z_L S) : z_r S 168 7 = some 176 := (h.2 168 (by decide)).2.2 7 176 rfl
theorem zr_168_8 {S : z_Shp} (h : z_L S) : z_r S 168 8 = some 177 := (h.2 168 (by decide)).2.2 8 177 rfl
theorem zr_168_9 {S : z_Shp} (h : z_L S) : z_r S 168 9 = some 178 := (h.2 168 (by decide)).2.2 9 178 rfl
theorem zr_168_10 {S : z_Shp} (h : z_L S) : z_r S 168 10 = some 179 := (h.2 168 (by decide)).2.2 10 179 rfl
theorem zr_168_11 {S : z_Shp} (h : z_L S) : z_r S 168 11 = some 180 := (h.2 168 (by decide)).2.2 11 180 rfl
theorem zr_168_12 {S : z_Shp} (h : z_L S) : z_r S 168 12 = some 181 := (h.2 168 (by decide)).2.2 12 181 rfl
theorem zr_168_13 {S : z_Shp} (h : z_L S) : z_r S 168 13 = some 182 := (h.2 168 (by decide)).2.2 13 182 rfl
theorem zr_168_14 {S : z_Shp} (h : z_L S) : z_r S 168 14 = some 183 := (h.2 168 (by decide)).2.2 14 183 rfl
theorem zr_186_5 {S : z_Shp} (h : z_L S) : z_r S 186 5 = some 187 := (h.2 186 (by decide)).2.2 5 187 rfl
theorem zr_186_6 {S : z_Shp} (h : z_L S) : z_r S 186 6 = some 188 := (h.2 186 (by decide)).2.2 6 188 rfl
theorem zr_186_7 {S : z_Shp} (h : z_L S) : z_r S 186 7 = some 189 := (h.2 186 (by decide)).2.2 7 189 rfl
theorem zr_186_8 {S : z_Shp} (h : z_L S) : z_r S 186 8 = some 190 := (h.2 186 (by decide)).2.2 8 190 rfl
theorem zr_186_9 {S : z_Shp} (h : z_L S) : z_r S 186 9 = some 191 := (h.2 186 (by decide)).2.2 9 191 rfl
theorem zr_186_10 {S : z_Shp} (h : z_L S) : z_r S 186 10 = some 192 := (h.2 186 (by decide)).2.2 10 192 rfl
theorem zr_186_11 {S : z_Shp} (h : z_L S) : z_r S 186 11 = some 193 := (h.2 186 (by decide)).2.2 11 193 rfl
theorem zr_186_12 {S : z_Shp} (h : z_L S) : z_r S 186 12 = some 194 := (h.2 186 (by decide)).2.2 12 194 rfl
theorem zr_195_0 {S : z_Shp} (h : z_L S) : z_r S 195 0 = some 196 := (h.2 195 (by decide)).2.2 0 196 rfl
theorem zr_195_1 {S : z_Shp} (h : z_L S) : z_r S 195 1 = some 197 := (h.2 195 (by decide)).2.2 1 197 rfl
theorem zr_198_1 {S : z_Shp} (h : z_L S) : z_r S 198 1 = some 199 := (h.2 198 (by decide)).2.2 1 199 rfl
theorem zr_198_3 {S : z_Shp} (h : z_L S) : z_r S 198 3 = some 200 := (h.2 198 (by decide)).2.2 3 200 rfl
theorem zr_198_5 {S : z_Shp} (h : z_L S) : z_r S 198 5 = some 201 := (h.2 198 (by decide)).2.2 5 201 rfl
theorem zr_198_7 {S : z_Shp} (h : z_L S) : z_r S 198 7 = some 202 := (h.2 198 (by decide)).2.2 7 202 rfl
theorem zr_203_2 {S : z_Shp} (h : z_L S) : z_r S 203 2 = some 204 := (h.2 203 (by decide)).2.2 2 204 rfl
theorem zr_203_3 {S : z_Shp} (h : z_L S) : z_r S 203 3 = some 205 := (h.2 203 (by decide)).2.2 3 205 rfl
theorem zr_203_4 {S : z_Shp} (h : z_L S) : z_r S 203 4 = some 206 := (h.2 203 (by decide)).2.2 4 206 rfl
theorem zr_203_5 {S : z_Shp} (h : z_L S) : z_r S 203 5 = some 209 := (h.2 203 (by decide)).2.2 5 209 rfl
theorem zr_203_6 {S : z_Shp} (h : z_L S) : z_r S 203 6 = some 210 := (h.2 203 (by decide)).2.2 6 210 rfl
theorem zr_206_0 {S : z_Shp} (h : z_L S) : z_r S 206 0 = some 207 := (h.2 206 (by decide)).2.2 0 207 rfl
theorem zr_206_1 {S : z_Shp} (h : z_L S) : z_r S 206 1 = some 208 := (h.2 206 (by decide)).2.2 1 208 rfl
theorem zr_210_0 {S : z_Shp} (h : z_L S) : z_r S 210 0 = some 211 := (h.2 210 (by decide)).2.2 0 211 rfl
theorem zr_210_1 {S : z_Shp} (h : z_L S) : z_r S 210 1 = some 212 := (h.2 210 (by decide)).2.2 1 212 rfl
theorem zr_213_2 {S : z_Shp} (h : z_L S) : z_r S 213 2 = some 214 := (h.2 213 (by decide)).2.2 2 214 rfl
theorem zr_213_3 {S : z_Shp} (h : z_L S) : z_r S 213 3 = some 215 := (h.2 213 (by decide)).2.2 3 215 rfl
theorem zr_213_4 {S : z_Shp} (h : z_L S) : z_r S 213 4 = some 216 := (h.2 213 (by decide)).2.2 4 216 rfl
theorem zr_213_5 {S : z_Shp} (h : z_L S) : z_r S 213 5 = some 219 := (h.2 213 (by decide)).2.2 5 219 rfl
theorem zr_213_6 {S : z_Shp} (h : z_L S) : z_r S 213 6 = some 220 := (h.2 213 (by decide)).2.2 6 220 rfl
theorem zr_216_0 {S : z_Shp} (h : z_L S) : z_r S 216 0 = some 217 := (h.2 216 (by decide)).2.2 0 217 rfl
theorem zr_216_1 {S : z_Shp} (h : z_L S) : z_r S 216 1 = some 218 := (h.2 216 (by decide)).2.2 1 218 rfl
theorem zr_220_0 {S : z_Shp} (h : z_L S) : z_r S 220 0 = some 221 := (h.2 220 (by decide)).2.2 0 221 rfl
theorem zr_220_1 {S : z_Shp} (h : z_L S) : z_r S 220 1 = some 222 := (h.2 220 (by decide)).2.2 1 222 rfl
theorem zr_223_1 {S : z_Shp} (h : z_L S) : z_r S 223 1 = some 224 := (h.2 223 (by decide)).2.2 1 224 rfl
theorem zr_223_2 {S : z_Shp} (h : z_L S) : z_r S 223 2 = some 225 := (h.2 223 (by decide)).2.2 2 225 rfl
theorem zr_223_3 {S : z_Shp} (h : z_L S) : z_r S 223 3 = some 226 := (h.2 223 (by decide)).2.2 3 226 rfl
theorem zr_223_4 {S : z_Shp} (h : z_L S) : z_r S 223 4 = some 227 := (h.2 223 (by decide)).2.2 4 227 rfl
theorem zr_223_5 {S : z_Shp} (h : z_L S) : z_r S 223 5 = some 228 := (h.2 223 (by decide)).2.2 5 228 rfl
theorem zr_223_7 {S : z_Shp} (h : z_L S) : z_r S 223 7 = some 229 := (h.2 223 (by decide)).2.2 7 229 rfl
theorem zr_223_10 {S : z_Shp} (h : z_L S) : z_r S 223 10 = some 230 := (h.2 223 (by decide)).2.2 10 230 rfl
theorem zr_223_11 {S : z_Shp} (h : z_L S) : z_r S 223 11 = some 231 := (h.2 223 (by decide)).2.2 11 231 rfl
theorem zr_223_12 {S : z_Shp} (h : z_L S) : z_r S 223 12 = some 232 := (h.2 223 (by decide)).2.2 12 232 rfl
theorem zr_223_13 {S : z_Shp} (h : z_L S) : z_r S 223 13 = some 233 := (h.2 223 (by decide)).2.2 13 233 rfl
theorem zr_223_15 {S : z_Shp} (h : z_L S) : z_r S 223 15 = some 234 := (h.2 223 (by decide)).2.2 15 234 rfl
theorem zr_223_16 {S : z_Shp} (h : z_L S) : z_r S 223 16 = some 235 := (h.2 223 (by decide)).2.2 16 235 rfl
theorem zr_223_24 {S : z_Shp} (h : z_L S) : z_r S 223 24 = some 236 := (h.2 223 (by decide)).2.2 24 236 rfl
theorem zr_223_25 {S : z_Shp} (h : z_L S) : z_r S 223 25 = some 237 := (h.2 223 (by decide)).2.2 25 237 rfl
theorem zr_223_26 {S : z_Shp} (h : z_L S) : z_r S 223 26 = some 238 := (h.2 223 (by decide)).2.2 26 238 rfl
theorem zr_223_27 {S : z_Shp} (h : z_L S) : z_r S 223 27 = some 239 := (h.2 223 (by decide)).2.2 27 239 rfl
theorem zr_223_28 {S : z_Shp} (h : z_L S) : z_r S 223 28 = some 240 := (h.2 223 (by decide)).2.2 28 240 rfl
theorem zr_223_29 {S : z_Shp} (h : z_L S) : z_r S 223 29 = some 241 := (h.2 223 (by decide)).2.2 29 241 rfl
theorem zr_223_30 {S : z_Shp} (h : z_L S) : z_r S 223 30 = some 242 := (h.2 223 (by decide)).2.2 30 242 rfl
theorem zr_223_35 {S : z_Shp} (h : z_L S) : z_r S 223 35 = some 243 := (h.2 223 (by decide)).2.2 35 243 rfl
theorem zr_223_37 {S : z_Shp} (h : z_L S) : z_r S 223 37 = some 244 := (h.2 223 (by decide)).2.2 37 244 rfl
theorem zr_223_38 {S : z_Shp} (h : z_L S) : z_r S 223 38 = some 245 := (h.2 223 (by decide)).2.2 38 245 rfl
theorem zr_223_39 {S : z_Shp} (h : z_L S) : z_r S 223 39 = some 246 := (h.2 223 (by decide)).2.2 39 246 rfl
theorem zr_223_40 {S : z_Shp} (h : z_L S) : z_r S 223 40 = some 247 := (h.2 223 (by decide)).2.2 40 247 rfl
theorem zr_223_41 {S : z_Shp} (h : z_L S) : z_r S 223 41 = some 248 := (h.2 223 (by decide)).2.2 41 248 rfl
theorem zr_223_43 {S : z_Shp} (h : z_L S) : z_r S 223 43 = some 249 := (h.2 223 (by decide)).2.2 43 249 rfl
theorem zr_223_44 {S : z_Shp} (h : z_L S) : z_r S 223 44 = some 250 := (h.2 223 (by decide)).2.2 44 250 rfl
theorem zr_223_45 {S : z_Shp} (h : z_L S) : z_r S 223 45 = some 251 := (h.2 223 (by decide)).2.2 45 251 rfl
theorem zr_223_46 {S : z_Shp} (h : z_L S) : z_r S 223 46 = some 252 := (h.2 223 (by decide)).2.2 46 252 rfl
theorem zr_223_47 {S : z_Shp} (h : z_L S) : z_r S 223 47 = some 253 := (h.2 223 (by decide)).2.2 47 253 rfl
theorem zr_223_48 {S : z_Shp} (h : z_L S) : z_r S 223 48 = some 254 := (h.2 223 (by decide)).2.2 48 254 rfl
theorem zr_223_49 {S : z_Shp} (h : z_L S) : z_r S 223 49 = some 255 := (h.2 223 (by decide)).2.2 49 255 rfl
theorem zr_223_54 {S : z_Shp} (h : z_L S) : z_r S 223 54 = some 256 := (h.2 223 (by decide)).2.2 54 256 rfl
theorem zr_223_55 {S : z_Shp} (h : z_L S) : z_r S 223 55 = some 257 := (h.2 223 (by decide)).2.2 55 257 rfl
theorem zr_223_57 {S : z_Shp} (h : z_L S) : z_r S 223 57 = some 258 := (h.2 223 (by decide)).2.2 57 258 rfl
theorem zr_223_58 {S : z_Shp} (h : z_L S) : z_r S 223 58 = some 259 := (h.2 223 (by decide)).2.2 58 259 rfl
theorem zr_223_64 {S : z_Shp} (h : z_L S) : z_r S 223 64 = some 260 := (h.2 223 (by decide)).2.2 64 260 rfl
theorem zFk0 {S : z_Shp} {f : Nat} (h : z_L S) (hf : z_isF f) : z_k S f = 1 := by
  simp only [z_isF, List.mem_cons, List.not_mem_nil, or_false] at hf
  rcases hf with rfl | rfl | rfl | rfl | rfl | rfl | rfl | rfl | rfl | rfl | rfl | rfl
  · exact zk_37 h
  · exact zk_47 h
  · exact zk_61 h
  · exact zk_71 h
  · exact zk_81 h
  · exact zk_91 h
  · exact zk_101 h
  · exact zk_111 h
  · exact zk_121 h
  · exact zk_131 h
  · exact zk_203 h
  · exact zk_213 h
theorem zFk1 {S : z_Shp} {f : Nat} (h : z_L S) (hf : z_isF f) : z_k S (f + 1) = 21 := by
  simp only [z_isF, List.mem_cons, List.not_mem_nil, or_false] at hf
  rcases hf with rfl | rfl | rfl | rfl | rfl | rfl | rfl | rfl | rfl | rfl | rfl | rfl
  · exact zk_38 h
  · exact zk_48 h
  · exact zk_62 h
  · exact zk_72 h
  · exact zk_82 h
  · exact zk_92 h
  · exact zk_102 h
  · exact zk_112 h
  · exact zk_122 h
  · exact zk_132 h
  · exact zk_204 h
  · exact zk_214 h
theorem zFl1 {S : z_Shp} {f : Nat} (h : z_L S) (hf : z_isF f) : z_l S (f + 1) = 2 := by
  simp only [z_isF, List.mem_cons, List.not_mem_nil, or_false] at hf
  rcases hf with rfl | rfl | rfl | rfl | rfl | rfl | rfl | rfl | rfl | rfl | rfl | rfl
  · exact zl_38 h
  · exact zl_48 h
  · exact zl_62 h
  · exact zl_72 h
  · exact zl_82 h
  · exact zl_92 h
  · exact zl_102 h
  · exact zl_112 h
  · exact zl_122 h
  · exact zl_132 h
  · exact zl_204 h
  · exact zl_214 h
theorem zFk2 {S : z_Shp} {f : Nat} (h : z_L S) (hf : z_isF f) : z_k S (f + 2) = 21 := by
  simp only [z_isF, List.mem_cons, List.not_mem_nil, or_false] at hf
  rcases hf with rfl | rfl | rfl | rfl | rfl | rfl | rfl | rfl | rfl | rfl | rfl | rfl
  · exact zk_39 h
  · exact zk_49 h
  · exact zk_63 h
  · exact zk_73 h
  · exact zk_83 h
  · exact zk_93 h
  · exact zk_103 h
  · exact zk_113 h
  · exact zk_123 h
  · exact zk_133 h
  · exact zk_205 h
  · exact zk_215 h
theorem zFl2 {S : z_Shp} {f : Nat} (h : z_L S) (hf : z_isF f) : z_l S (f + 2) = 2 := by
  simp only [z_isF, List.mem_cons, List.not_mem_nil, or_false] at hf
  rcases hf with rfl | rfl | rfl | rfl | rfl | rfl | rfl | rfl | rfl | rfl | rfl | rfl
  · exact zl_39 h
  · exact zl_49 h
  · exact zl_63 h
  · exact zl_73 h
  · exact zl_83 h
  · exact zl_93 h
  · exact zl_103 h
  · exact zl_113 h
  · exact zl_123 h
  · exact zl_133 h
  · exact zl_205 h
  · exact zl_215 h
theorem zFk3 {S : z_Shp} {f : Nat} (h : z_L S) (hf : z_isF f) : z_k S (f + 3) = 25 := by
  simp only [z_isF, List.mem_cons, List.not_mem_nil, or_false] at hf
  rcases hf with rfl | rfl | rfl | rfl | rfl | rfl | rfl | rfl | rfl | rfl | rfl | rfl
  · exact zk_40 h
  · exact zk_50 h
  · exact zk_64 h
  · exact zk_74 h
  · exact zk_84 h
  · exact zk_94 h
  · exact zk_104 h
  · exact zk_114 h
  · exact zk_124 h
  · exact zk_134 h
  · exact zk_206 h
  · exact zk_216 h
theorem zFl3 {S : z_Shp} {f : Nat} (h : z_L S) (hf : z_isF f) : z_l S (f + 3) = 2 := by
  simp only [z_isF, List.mem_cons, List.not_mem_nil, or_false] at hf
  rcases hf with rfl | rfl | rfl | rfl | rfl | rfl | rfl | rfl | rfl | rfl | rfl | rfl
  · exact zl_40 h
  · exact zl_50 h
  · exact zl_64 h
  · exact zl_74 h
  · exact zl_84 h
  · exact zl_94 h
  · exact zl_104 h
  · exact zl_114 h
  · exact zl_124 h
  · exact zl_134 h
  · exact zl_206 h
  · exact zl_216 h
theorem zFk4 {S : z_Shp} {f : Nat} (h : z_L S) (hf : z_isF f) : z_k S (f + 4) = 21 := by
  simp only [z_isF, List.mem_cons, List.not_mem_nil, or_false] at hf
  rcases hf with rfl | rfl | rfl | rfl | rfl | rfl | rfl | rfl | rfl | rfl | rfl | rfl
  · exact zk_41 h
  · exact zk_51 h
  · exact zk_65 h
  · exact zk_75 h
  · exact zk_85 h
  · exact zk_95 h
  · exact zk_105 h
  · exact zk_115 h
  · exact zk_125 h
  · exact zk_135 h
  · exact zk_207 h
  · exact zk_217 h
theorem zFl4 {S : z_Shp} {f : Nat} (h : z_L S) (hf : z_isF f) : z_l S (f + 4) = 8 := by
  simp only [z_isF, List.mem_cons, List.not_mem_nil, or_false] at hf
  rcases hf with rfl | rfl | rfl | rfl | rfl | rfl | rfl | rfl | rfl | rfl | rfl | rfl
  · exact zl_41 h
  · exact zl_51 h
  · exact zl_65 h
  · exact zl_75 h
  · exact zl_85 h
  · exact zl_95 h
  · exact zl_105 h
  · exact zl_115 h
  · exact zl_125 h
  · exact zl_135 h
  · exact zl_207 h
  · exact zl_217 h
theorem zFk5 {S : z_Shp} {f : Nat} (h : z_L S) (hf : z_isF f) : z_k S (f + 5) = 21 := by
  simp only [z_isF, List.mem_cons, List.not_mem_nil, or_false] at hf
  rcases hf with rfl | rfl | rfl | rfl | rfl | rfl | rfl | rfl | rfl | rfl | rfl | rfl
  · exact zk_42 h
  · exact zk_52 h
  · exact zk_66 h
  · exact zk_76 h
  · exact zk_86 h
  · exact zk_96 h
  · exact zk_106 h
  · exact zk_116 h
  · exact zk_126 h
  · exact zk_136 h
  · exact zk_208 h
  · exact zk_218 h
theorem zFl5 {S : z_Shp} {f : Nat} (h : z_L S) (hf : z_isF f) : z_l S (f + 5) = 8 := by
  simp only [z_isF, List.mem_cons, List.not_mem_nil, or_false] at hf
  rcases hf with rfl | rfl | rfl | rfl | rfl | rfl | rfl | rfl | rfl | rfl | rfl | rfl
  · exact zl_42 h
  · exact zl_52 h
  · exact zl_66 h
  · exact zl_76 h
  · exact zl_86 h
  · exact zl_96 h
  · exact zl_106 h
  · exact zl_116 h
  · exact zl_126 h
  · exact zl_136 h
  · exact zl_208 h
  · exact zl_218 h
theorem zFk6 {S : z_Shp} {f : Nat} (h : z_L S) (hf : z_isF f) : z_k S (f + 6) = 21 := by
  simp only [z_isF, List.mem_cons, List.not_mem_nil, or_false] at hf
  rcases hf with rfl | rfl | rfl | rfl | rfl | rfl | rfl | rfl | rfl | rfl | rfl | rfl
  · exact zk_43 h
  · exact zk_53 h
  · exact zk_67 h
  · exact zk_77 h
  · exact zk_87 h
  · exact zk_97 h
  · exact zk_107 h
  · exact zk_117 h
  · exact zk_127 h
  · exact zk_137 h
  · exact zk_209 h
  · exact zk_219 h
theorem zFl6 {S : z_Shp} {f : Nat} (h : z_L S) (hf : z_isF f) : z_l S (f + 6) = 25 := by
  simp only [z_isF, List.mem_cons, List.not_mem_nil, or_false] at hf
  rcases hf with rfl | rfl | rfl | rfl | rfl | rfl | rfl | rfl | rfl | rfl | rfl | rfl
  · exact zl_43 h
  · exact zl_53 h
  · exact zl_67 h
  · exact zl_77 h
  · exact zl_87 h
  · exact zl_97 h
  · exact zl_107 h
  · exact zl_117 h
  · exact zl_127 h
  · exact zl_137 h
  · exact zl_209 h
  · exact zl_219 h
theorem zFk7 {S : z_Shp} {f : Nat} (h : z_L S) (hf : z_isF f) : z_k S (f + 7) = 25 := by
  simp only [z_isF, List.mem_cons, List.not_mem_nil, or_false] at hf
  rcases hf with rfl | rfl | rfl | rfl | rfl | rfl | rfl | rfl | rfl | rfl | rfl | rfl
  · exact zk_44 h
  · exact zk_54 h
  · exact zk_68 h
  · exact zk_78 h
  · exact zk_88 h
  · exact zk_98 h
  · exact zk_108 h
  · exact zk_118 h
  · exact zk_128 h
  · exact zk_138 h
  · exact zk_210 h
  · exact zk_220 h
theorem zFl7 {S : z_Shp} {f : Nat} (h : z_L S) (hf : z_isF f) : z_l S (f + 7) = 2 := by
  simp only [z_isF, List.mem_cons, List.not_mem_nil, or_false] at hf
  rcases hf with rfl | rfl | rfl | rfl | rfl | rfl | rfl | rfl | rfl | rfl | rfl | rfl
  · exact zl_44 h
  · exact zl_54 h
  · exact zl_68 h
  · exact zl_78 h
  · exact zl_88 h
  · exact zl_98 h
  · exact zl_108 h
  · exact zl_118 h
  · exact zl_128 h
  · exact zl_138 h
  · exact zl_210 h
  · exact zl_220 h
theorem zFk8 {S : z_Shp} {f : Nat} (h : z_L S) (hf : z_isF f) : z_k S (f + 8) = 21 := by
  simp only [z_isF, List.mem_cons, List.not_mem_nil, or_false] at hf
  rcases hf with rfl | rfl | rfl | rfl | rfl | rfl | rfl | rfl | rfl | rfl | rfl | rfl
  · exact zk_45 h
  · exact zk_55 h
  · exact zk_69 h
  · exact zk_79 h
  · exact zk_89 h
  · exact zk_99 h
  · exact zk_109 h
  · exact zk_119 h
  · exact zk_129 h
  · exact zk_139 h
  · exact zk_211 h
  · exact zk_221 h
theorem zFl8 {S : z_Shp} {f : Nat} (h : z_L S) (hf : z_isF f) : z_l S (f + 8) = 12 := by
  simp only [z_isF, List.mem_cons, List.not_mem_nil, or_false] at hf
  rcases hf with rfl | rfl | rfl | rfl | rfl | rfl | rfl | rfl | rfl | rfl | rfl | rfl
  · exact zl_45 h
  · exact zl_55 h
  · exact zl_69 h
  · exact zl_79 h
  · exact zl_89 h
  · exact zl_99 h
  · exact zl_109 h
  · exact zl_119 h
  · exact zl_129 h
  · exact zl_139 h
  · exact zl_211 h
  · exact zl_221 h
theorem zFk9 {S : z_Shp} {f : Nat} (h : z_L S) (hf : z_isF f) : z_k S (f + 9) = 21 := by
  simp only [z_isF, List.mem_cons, List.not_mem_nil, or_false] at hf
  rcases hf with rfl | rfl | rfl | rfl | rfl | rfl | rfl | rfl | rfl | rfl | rfl | rfl
  · exact zk_46 h
  · exact zk_56 h
  · exact zk_70 h
  · exact zk_80 h
  · exact zk_90 h
  · exact zk_100 h
  · exact zk_110 h
  · exact zk_120 h
  · exact zk_130 h
  · exact zk_140 h
  · exact zk_212 h
  · exact zk_222 h
theorem zFl9 {S : z_Shp} {f : Nat} (h : z_L S) (hf : z_isF f) : z_l S (f + 9) = 12 := by
  simp only [z_isF, List.mem_cons, List.not_mem_nil, or_false] at hf
  rcases hf with rfl | rfl | rfl | rfl | rfl | rfl | rfl | rfl | rfl | rfl | rfl | rfl
  · exact zl_46 h
  · exact zl_56 h
  · exact zl_70 h
  · exact zl_80 h
  · exact zl_90 h
  · exact zl_100 h
  · exact zl_110 h
  · exact zl_120 h
  · exact zl_130 h
  · exact zl_140 h
  · exact zl_212 h
  · exact zl_222 h
theorem zFr0_2 {S : z_Shp} {f : Nat} (h : z_L S) (hf : z_isF f) : z_r S f 2 = some (f + 1) := by
  simp only [z_isF, List.mem_cons, List.not_mem_nil, or_false] at hf
  rcases hf with rfl | rfl | rfl | rfl | rfl | rfl | rfl | rfl | rfl | rfl | rfl | rfl
  · exact zr_37_2 h
  · exact zr_47_2 h
  · exact zr_61_2 h
  · exact zr_71_2 h
  · exact zr_81_2 h
  · exact zr_91_2 h
  · exact zr_101_2 h
  · exact zr_111_2 h
  · exact zr_121_2 h
  · exact zr_131_2 h
  · exact zr_203_2 h
  · exact zr_213_2 h
theorem zFr0_3 {S : z_Shp} {f : Nat} (h : z_L S) (hf : z_isF f) : z_r S f 3 = some (f + 2) := by
  simp only [z_isF, List.mem_cons, List.not_mem_nil, or_false] at hf
  rcases hf with rfl | rfl | rfl | rfl | rfl | rfl | rfl | rfl | rfl | rfl | rfl | rfl
  · exact zr_37_3 h
  · exact zr_47_3 h
  · exact zr_61_3 h
  · exact zr_71_3 h
  · exact zr_81_3 h
  · exact zr_91_3 h
  · exact zr_101_3 h
  · exact zr_111_3 h
  · exact zr_121_3 h
  · exact zr_131_3 h
  · exact zr_203_3 h
  · exact zr_213_3 h
theorem zFr0_4 {S : z_Shp} {f : Nat} (h : z_L S) (hf : z_isF f) : z_r S f 4 = some (f + 3) := by
  simp only [z_isF, List.mem_cons, List.not_mem_nil, or_false] at hf
  rcases hf with rfl | rfl | rfl | rfl | rfl | rfl | rfl | rfl | rfl | rfl | rfl | rfl
  · exact zr_37_4 h
  · exact zr_47_4 h
  · exact zr_61_4 h
  · exact zr_71_4 h
  · exact zr_81_4 h
  · exact zr_91_4 h
  · exact zr_101_4 h
  · exact zr_111_4 h
  · exact zr_121_4 h
  · exact zr_131_4 h
  · exact zr_203_4 h
  · exact zr_213_4 h
theorem zFr0_5 {S : z_Shp} {f : Nat} (h : z_L S) (hf : z_isF f) : z_r S f 5 = some (f + 6) := by
  simp only [z_isF, List.mem_cons, List.not_mem_nil, or_false] at hf
  rcases hf with rfl | rfl | rfl | rfl | rfl | rfl | rfl | rfl | rfl | rfl | rfl | rfl
  · exact zr_37_5 h
  · exact zr_47_5 h
  · exact zr_61_5 h
  · exact zr_71_5 h
  · exact zr_81_5 h
  · exact zr_91_5 h
  · exact zr_101_5 h
  · exact zr_111_5 h
  · exact zr_121_5 h
  · exact zr_131_5 h
  · exact zr_203_5 h
  · exact zr_213_5 h
theorem zFr0_6 {S : z_Shp} {f : Nat} (h : z_L S) (hf : z_isF f) : z_r S f 6 = some (f + 7) := by
  simp only [z_isF, List.mem_cons, List.not_mem_nil, or_false] at hf
  rcases hf with rfl | rfl | rfl | rfl | rfl | rfl | rfl | rfl | rfl | rfl | rfl | rfl
  · exact zr_37_6 h
  · exact zr_47_6 h
  · exact zr_61_6 h
  · exact zr_71_6 h
  · exact zr_81_6 h
  · exact zr_91_6 h
  · exact zr_101_6 h
  · exact zr_111_6 h
  · exact zr_121_6 h
  · exact zr_131_6 h
  · exact zr_203_6 h
  · exact zr_213_6 h
theorem zFr3_0 {S : z_Shp} {f : Nat} (h : z_L S) (hf : z_isF f) : z_r S (f + 3) 0 = some (f + 4) := by
  simp only [z_isF, List.mem_cons, List.not_mem_nil, or_false] at hf
  rcases hf with rfl | rfl | rfl | rfl | rfl | rfl | rfl | rfl | rfl | rfl | rfl | rfl
  · exact zr_40_0 h
  · exact zr_50_0 h
  · exact zr_64_0 h
  · exact zr_74_0 h
  · exact zr_84_0 h
  · exact zr_94_0 h
  · exact zr_104_0 h
  · exact zr_114_0 h
  · exact zr_124_0 h
  · exact zr_134_0 h
  · exact zr_206_0 h
  · exact zr_216_0 h
theorem zFr3_1 {S : z_Shp} {f : Nat} (h : z_L S) (hf : z_isF f) : z_r S (f + 3) 1 = some (f + 5) := by
  simp only [z_isF, List.mem_cons, List.not_mem_nil, or_false] at hf
  rcases hf with rfl | rfl | rfl | rfl | rfl | rfl | rfl | rfl | rfl | rfl | rfl | rfl
  · exact zr_40_1 h
  · exact zr_50_1 h
  · exact zr_64_1 h
  · exact zr_74_1 h
  · exact zr_84_1 h
  · exact zr_94_1 h
  · exact zr_104_1 h
  · exact zr_114_1 h
  · exact zr_124_1 h
  · exact zr_134_1 h
  · exact zr_206_1 h
  · exact zr_216_1 h
theorem zFr7_0 {S : z_Shp} {f : Nat} (h : z_L S) (hf : z_isF f) : z_r S (f + 7) 0 = some (f + 8) := by
  simp only [z_isF, List.mem_cons, List.not_mem_nil, or_false] at hf
  rcases hf with rfl | rfl | rfl | rfl | rfl | rfl | rfl | rfl | rfl | rfl | rfl | rfl
  · exact zr_44_0 h
  · exact zr_54_0 h
  · exact zr_68_0 h
  · exact zr_78_0 h
  · exact zr_88_0 h
  · exact zr_98_0 h
  · exact zr_108_0 h
  · exact zr_118_0 h
  · exact zr_128_0 h
  · exact zr_138_0 h
  · exact zr_210_0 h
  · exact zr_220_0 h
theorem zFr7_1 {S : z_Shp} {f : Nat} (h : z_L S) (hf : z_isF f) : z_r S (f + 7) 1 = some (f + 9) := by
  simp only [z_isF, List.mem_cons, List.not_mem_nil, or_false] at hf
  rcases hf with rfl | rfl | rfl | rfl | rfl | rfl | rfl | rfl | rfl | rfl | rfl | rfl
  · exact zr_44_1 h
  · exact zr_54_1 h
  · exact zr_68_1 h
  · exact zr_78_1 h
  · exact zr_88_1 h
  · exact zr_98_1 h
  · exact zr_108_1 h
  · exact zr_118_1 h
  · exact zr_128_1 h
  · exact zr_138_1 h
  · exact zr_210_1 h
  · exact zr_220_1 h
theorem zFn {f : Nat} (hf : z_isF f) : f + 9 < 262 := by
  simp only [z_isF, List.mem_cons, List.not_mem_nil, or_false] at hf
  omega
theorem zWk0 {S : z_Shp} {w : Nat} (h : z_L S) (hw : z_isW w) : z_k S w = 10 := by
  rcases hw with rfl | rfl
  · exact zk_1 h
  · exact zk_19 h
theorem zWk1 {S : z_Shp} {w : Nat} (h : z_L S) (hw : z_isW w) : z_k S (w + 1) = 25 := by
  rcases hw with rfl | rfl
  · exact zk_2 h
  · exact zk_20 h
theorem zWl1 {S : z_Shp} {w : Nat} (h : z_L S) (hw : z_isW w) : z_l S (w + 1) = 2 := by
  rcases hw with rfl | rfl
  · exact zl_2 h
  · exact zl_20 h
theorem zWk2 {S : z_Shp} {w : Nat} (h : z_L S) (hw : z_isW w) : z_k S (w + 2) = 21 := by
  rcases hw with rfl | rfl
  · exact zk_3 h
  · exact zk_21 h
theorem zWl2 {S : z_Shp} {w : Nat} (h : z_L S) (hw : z_isW w) : z_l S (w + 2) = 12 := by
  rcases hw with rfl | rfl
  · exact zl_3 h
  · exact zl_21 h
theorem zWk3 {S : z_Shp} {w : Nat} (h : z_L S) (hw : z_isW w) : z_k S (w + 3) = 21 := by
  rcases hw with rfl | rfl
  · exact zk_4 h
  · exact zk_22 h
theorem zWl3 {S : z_Shp} {w : Nat} (h : z_L S) (hw : z_isW w) : z_l S (w + 3) = 12 := by
  rcases hw with rfl | rfl
  · exact zl_4 h
  · exact zl_22 h
theorem zWk4 {S : z_Shp} {w : Nat} (h : z_L S) (hw : z_isW w) : z_k S (w + 4) = 25 := by
  rcases hw with rfl | rfl
  · exact zk_5 h
  · exact zk_23 h
theorem zWl4 {S : z_Shp} {w : Nat} (h : z_L S) (hw : z_isW w) : z_l S (w + 4) = 2 := by
  rcases hw with rfl | rfl
  · exact zl_5 h
  · exact zl_23 h
theorem zWk5 {S : z_Shp} {w : Nat} (h : z_L S) (hw : z_isW w) : z_k S (w + 5) = 21 := by
  rcases hw with rfl | rfl
  · exact zk_6 h
  · exact zk_24 h
theorem zWl5 {S : z_Shp} {w : Nat} (h : z_L S) (hw : z_isW w) : z_l S (w + 5) = 12 := by
  rcases hw with rfl | rfl
  · exact zl_6 h
  · exact zl_24 h
theorem zWk6 {S : z_Shp} {w : Nat} (h : z_L S) (hw : z_isW w) : z_k S (w + 6) = 21 := by
  rcases hw with rfl | rfl
  · exact zk_7 h
  · exact zk_25 h
theorem zWl6 {S : z_Shp} {w : Nat} (h : z_L S) (hw : z_isW w) : z_l S (w + 6) = 12 := by
  rcases hw with rfl | rfl
  · exact zl_7 h
  · exact zl_25 h
theorem zWk7 {S : z_Shp} {w : Nat} (h : z_L S) (hw : z_isW w) : z_k S (w + 7) = 25 := by
  rcases hw with rfl | rfl
  · exact zk_8 h
  · exact zk_26 h
theorem zWl7 {S : z_Shp} {w : Nat} (h : z_L S) (hw : z_isW w) : z_l S (w + 7) = 2 := by
  rcases hw with rfl | rfl
  · exact zl_8 h
  · exact zl_26 h
theorem zWk8 {S : z_Shp} {w : Nat} (h : z_L S) (hw : z_isW w) : z_k S (w + 8) = 21 := by
  rcases hw with rfl | rfl
  · exact zk_9 h
  · exact zk_27 h
theorem zWl8 {S : z_Shp} {w : Nat} (h : z_L S) (hw : z_isW w) : z_l S (w + 8) = 12 := by
  rcases hw with rfl | rfl
  · exact zl_9 h
  · exact zl_27 h
theorem zWk9 {S : z_Shp} {w : Nat} (h : z_L S) (hw : z_isW w) : z_k S (w + 9) = 21 := by
  rcases hw with rfl | rfl
  · exact zk_10 h
  · exact zk_28 h
theorem zWl9 {S : z_Shp} {w : Nat} (h : z_L S) (hw : z_isW w) : z_l S (w + 9) = 12 := by
  rcases hw with rfl | rfl
  · exact zl_10 h
  · exact zl_28 h
theorem zWk10 {S : z_Shp} {w : Nat} (h : z_L S) (hw : z_isW w) : z_k S (w + 10) = 25 := by
  rcases hw with rfl | rfl
  · exact zk_11 h
  · exact zk_29 h
theorem zWl10 {S : z_Shp} {w : Nat} (h : z_L S) (hw : z_isW w) : z_l S (w + 10) = 2 := by
  rcases hw with rfl | rfl
  · exact zl_11 h
  · exact zl_29 h
theorem zWk11 {S : z_Shp} {w : Nat} (h : z_L S) (hw : z_isW w) : z_k S (w + 11) = 21 := by
  rcases hw with rfl | rfl
  · exact zk_12 h
  · exact zk_30 h
theorem zWl11 {S : z_Shp} {w : Nat} (h : z_L S) (hw : z_isW w) : z_l S (w + 11) = 25 := by
  rcases hw with rfl | rfl
  · exact zl_12 h
  · exact zl_30 h
theorem zWk12 {S : z_Shp} {w : Nat} (h : z_L S) (hw : z_isW w) : z_k S (w + 12) = 21 := by
  rcases hw with rfl | rfl
  · exact zk_13 h
  · exact zk_31 h
theorem zWl12 {S : z_Shp} {w : Nat} (h : z_L S) (hw : z_isW w) : z_l S (w + 12) = 25 := by
  rcases hw with rfl | rfl
  · exact zl_13 h
  · exact zl_31 h
theorem zWk13 {S : z_Shp} {w : Nat} (h : z_L S) (hw : z_isW w) : z_k S (w + 13) = 25 := by
  rcases hw with rfl | rfl
  · exact zk_14 h
  · exact zk_32 h
theorem zWl13 {S : z_Shp} {w : Nat} (h : z_L S) (hw : z_isW w) : z_l S (w + 13) = 2 := by
  rcases hw with rfl | rfl
  · exact zl_14 h
  · exact zl_32 h
theorem zWk14 {S : z_Shp} {w : Nat} (h : z_L S) (hw : z_isW w) : z_k S (w + 14) = 21 := by
  rcases hw with rfl | rfl
  · exact zk_15 h
  · exact zk_33 h
theorem zWl14 {S : z_Shp} {w : Nat} (h : z_L S) (hw : z_isW w) : z_l S (w + 14) = 25 := by
  rcases hw with rfl | rfl
  · exact zl_15 h
  · exact zl_33 h
theorem zWk15 {S : z_Shp} {w : Nat} (h : z_L S) (hw : z_isW w) : z_k S (w + 15) = 21 := by
  rcases hw with rfl | rfl
  · exact zk_16 h
  · exact zk_34 h
theorem zWl15 {S : z_Shp} {w : Nat} (h : z_L S) (hw : z_isW w) : z_l S (w + 15) = 25 := by
  rcases hw with rfl | rfl
  · exact zl_16 h
  · exact zl_34 h
theorem zWk16 {S : z_Shp} {w : Nat} (h : z_L S) (hw : z_isW w) : z_k S (w + 16) = 21 := by
  rcases hw with rfl | rfl
  · exact zk_17 h
  · exact zk_35 h
theorem zWl16 {S : z_Shp} {w : Nat} (h : z_L S) (hw : z_isW w) : z_l S (w + 16) = 2 := by
  rcases hw with rfl | rfl
  · exact zl_17 h
  · exact zl_35 h
theorem zWk17 {S : z_Shp} {w : Nat} (h : z_L S) (hw : z_isW w) : z_k S (w + 17) = 21 := by
  rcases hw with rfl | rfl
  · exact zk_18 h
  · exact zk_36 h
theorem zWl17 {S : z_Shp} {w : Nat} (h : z_L S) (hw : z_isW w) : z_l S (w + 17) = 2 := by
  rcases hw with rfl | rfl
  · exact zl_18 h
  · exact zl_36 h
theorem zWr0_3 {S : z_Shp} {w : Nat} (h : z_L S) (hw : z_isW w) : z_r S w 3 = some (w + 1) := by
  rcases hw with rfl | rfl
  · exact zr_1_3 h
  · exact zr_19_3 h
theorem zWr0_4 {S : z_Shp} {w : Nat} (h : z_L S) (hw : z_isW w) : z_r S w 4 = some (w + 4) := by
  rcases hw with rfl | rfl
  · exact zr_1_4 h
  · exact zr_19_4 h
theorem zWr0_5 {S : z_Shp} {w : Nat} (h : z_L S) (hw : z_isW w) : z_r S w 5 = some (w + 7) := by
  rcases hw with rfl | rfl
  · exact zr_1_5 h
  · exact zr_19_5 h
theorem zWr0_6 {S : z_Shp} {w : Nat} (h : z_L S) (hw : z_isW w) : z_r S w 6 = some (w + 10) := by
  rcases hw with rfl | rfl
  · exact zr_1_6 h
  · exact zr_19_6 h
theorem zWr0_7 {S : z_Shp} {w : Nat} (h : z_L S) (hw : z_isW w) : z_r S w 7 = some (w + 13) := by
  rcases hw with rfl | rfl
  · exact zr_1_7 h
  · exact zr_19_7 h
theorem zWr0_8 {S : z_Shp} {w : Nat} (h : z_L S) (hw : z_isW w) : z_r S w 8 = some (w + 16) := by
  rcases hw with rfl | rfl
  · exact zr_1_8 h
  · exact zr_19_8 h
theorem zWr0_9 {S : z_Shp} {w : Nat} (h : z_L S) (hw : z_isW w) : z_r S w 9 = some (w + 17) := by
  rcases hw with rfl | rfl
  · exact zr_1_9 h
  · exact zr_19_9 h
theorem zWr1_0 {S : z_Shp} {w : Nat} (h : z_L S) (hw : z_isW w) : z_r S (w + 1) 0 = some (w + 2) := by
  rcases hw with rfl | rfl
  · exact zr_2_0 h
  · exact zr_20_0 h
theorem zWr1_1 {S : z_Shp} {w : Nat} (h : z_L S) (hw : z_isW w) : z_r S (w + 1) 1 = some (w + 3) := by
  rcases hw with rfl | rfl
  · exact zr_2_1 h
  · exact zr_20_1 h
theorem zWr4_0 {S : z_Shp} {w : Nat} (h : z_L S) (hw : z_isW w) : z_r S (w + 4) 0 = some (w + 5) := by
  rcases hw with rfl | rfl
  · exact zr_5_0 h
  · exact zr_23_0 h
theorem zWr4_1 {S : z_Shp} {w : Nat} (h : z_L S) (hw : z_isW w) : z_r S (w + 4) 1 = some (w + 6) := by
  rcases hw with rfl | rfl
  · exact zr_5_1 h
  · exact zr_23_1 h
theorem zWr7_0 {S : z_Shp} {w : Nat} (h : z_L S) (hw : z_isW w) : z_r S (w + 7) 0 = some (w + 8) := by
  rcases hw with rfl | rfl
  · exact zr_8_0 h
  · exact zr_26_0 h
theorem zWr7_1 {S : z_Shp} {w : Nat} (h : z_L S) (hw : z_isW w) : z_r S (w + 7) 1 = some (w + 9) := by
  rcases hw with rfl | rfl
  · exact zr_8_1 h
  · exact zr_26_1 h
theorem zWr10_0 {S : z_Shp} {w : Nat} (h : z_L S) (hw : z_isW w) : z_r S (w + 10) 0 = some (w + 11) := by
  rcases hw with rfl | rfl
  · exact zr_11_0 h
  · exact zr_29_0 h
theorem zWr10_1 {S : z_Shp} {w : Nat} (h : z_L S) (hw : z_isW w) : z_r S (w + 10) 1 = some (w + 12) := by
  rcases hw with rfl | rfl
  · exact zr_11_1 h
  · exact zr_29_1 h
theorem zWr13_0 {S : z_Shp} {w : Nat} (h : z_L S) (hw : z_isW w) : z_r S (w + 13) 0 = some (w + 14) := by
  rcases hw with rfl | rfl
  · exact zr_14_0 h
  · exact zr_32_0 h
theorem zWr13_1 {S : z_Shp} {w : Nat} (h : z_L S) (hw : z_isW w) : z_r S (w + 13) 1 = some (w + 15) := by
  rcases hw with rfl | rfl
  · exact zr_14_1 h
  · exact zr_32_1 h
/-- one of two rows, by an index -/
theorem z_2 {i : Int32} {P : Nat → Prop} (hi : vp_in i 2) (h0 : P 0) (h1 : P 1) : P i.toNatClampNeg := by
  have h2 : i.toNatClampNeg < 2 := Nat.not_le.mp fun q => hi (Or.inr q)
  rcases (show i.toNatClampNeg = 0 ∨ i.toNatClampNeg = 1 by omega) with e | e <;> rw [e] <;> assumption
theorem z_lt_of {i : Int32} {n : Nat} (hi : vp_in i n) : i.toNatClampNeg < n := Nat.not_le.mp fun q => hi (Or.inr q)
theorem zFg3r {S : z_Shp} {f : Nat} {i : Int32} (h : z_L S) (hf : z_isF f) (hi : vp_in i 2) : z_r S (f + 3) i.toNatClampNeg = some (f + 4 + i.toNatClampNeg) := z_2 (P := fun q => z_r S (f + 3) q = some (f + 4 + q)) hi (zFr3_0 h hf) (zFr3_1 h hf)
theorem zFg3k {S : z_Shp} {f : Nat} {i : Int32} (h : z_L S) (hf : z_isF f) (hi : vp_in i 2) : z_k S (f + 4 + i.toNatClampNeg) = 21 := z_2 (P := fun q => z_k S (f + 4 + q) = 21) hi (zFk4 h hf) (zFk5 h hf)
theorem zFg3l {S : z_Shp} {f : Nat} {i : Int32} (h : z_L S) (hf : z_isF f) (hi : vp_in i 2) : z_l S (f + 4 + i.toNatClampNeg) = 8 := z_2 (P := fun q => z_l S (f + 4 + q) = 8) hi (zFl4 h hf) (zFl5 h hf)
theorem zFg7r {S : z_Shp} {f : Nat} {i : Int32} (h : z_L S) (hf : z_isF f) (hi : vp_in i 2) : z_r S (f + 7) i.toNatClampNeg = some (f + 8 + i.toNatClampNeg) := z_2 (P := fun q => z_r S (f + 7) q = some (f + 8 + q)) hi (zFr7_0 h hf) (zFr7_1 h hf)
theorem zFg7k {S : z_Shp} {f : Nat} {i : Int32} (h : z_L S) (hf : z_isF f) (hi : vp_in i 2) : z_k S (f + 8 + i.toNatClampNeg) = 21 := z_2 (P := fun q => z_k S (f + 8 + q) = 21) hi (zFk8 h hf) (zFk9 h hf)
theorem zFg7l {S : z_Shp} {f : Nat} {i : Int32} (h : z_L S) (hf : z_isF f) (hi : vp_in i 2) : z_l S (f + 8 + i.toNatClampNeg) = 12 := z_2 (P := fun q => z_l S (f + 8 + q) = 12) hi (zFl8 h hf) (zFl9 h hf)
theorem zWg1r {S : z_Shp} {w : Nat} {i : Int32} (h : z_L S) (hw : z_isW w) (hi : vp_in i 2) : z_r S (w + 1) i.toNatClampNeg = some (w + 2 + i.toNatClampNeg) := z_2 (P := fun q => z_r S (w + 1) q = some (w + 2 + q)) hi (zWr1_0 h hw) (zWr1_1 h hw)
theorem zWg1k {S : z_Shp} {w : Nat} {i : Int32} (h : z_L S) (hw : z_isW w) (hi : vp_in i 2) : z_k S (w + 2 + i.toNatClampNeg) = 21 := z_2 (P := fun q => z_k S (w + 2 + q) = 21) hi (zWk2 h hw) (zWk3 h hw)
theorem zWg1l {S : z_Shp} {w : Nat} {i : Int32} (h : z_L S) (hw : z_isW w) (hi : vp_in i 2) : z_l S (w + 2 + i.toNatClampNeg) = 12 := z_2 (P := fun q => z_l S (w + 2 + q) = 12) hi (zWl2 h hw) (zWl3 h hw)
theorem zWg4r {S : z_Shp} {w : Nat} {i : Int32} (h : z_L S) (hw : z_isW w) (hi : vp_in i 2) : z_r S (w + 4) i.toNatClampNeg = some (w + 5 + i.toNatClampNeg) := z_2 (P := fun q => z_r S (w + 4) q = some (w + 5 + q)) hi (zWr4_0 h hw) (zWr4_1 h hw)
theorem zWg4k {S : z_Shp} {w : Nat} {i : Int32} (h : z_L S) (hw : z_isW w) (hi : vp_in i 2) : z_k S (w + 5 + i.toNatClampNeg) = 21 := z_2 (P := fun q => z_k S (w + 5 + q) = 21) hi (zWk5 h hw) (zWk6 h hw)
theorem zWg4l {S : z_Shp} {w : Nat} {i : Int32} (h : z_L S) (hw : z_isW w) (hi : vp_in i 2) : z_l S (w + 5 + i.toNatClampNeg) = 12 := z_2 (P := fun q => z_l S (w + 5 + q) = 12) hi (zWl5 h hw) (zWl6 h hw)
theorem zWg7r {S : z_Shp} {w : Nat} {i : Int32} (h : z_L S) (hw : z_isW w) (hi : vp_in i 2) : z_r S (w + 7) i.toNatClampNeg = some (w + 8 + i.toNatClampNeg) := z_2 (P := fun q => z_r S (w + 7) q = some (w + 8 + q)) hi (zWr7_0 h hw) (zWr7_1 h hw)
theorem zWg7k {S : z_Shp} {w : Nat} {i : Int32} (h : z_L S) (hw : z_isW w) (hi : vp_in i 2) : z_k S (w + 8 + i.toNatClampNeg) = 21 := z_2 (P := fun q => z_k S (w + 8 + q) = 21) hi (zWk8 h hw) (zWk9 h hw)
theorem zWg7l {S : z_Shp} {w : Nat} {i : Int32} (h : z_L S) (hw : z_isW w) (hi : vp_in i 2) : z_l S (w + 8 + i.toNatClampNeg) = 12 := z_2 (P := fun q => z_l S (w + 8 + q) = 12) hi (zWl8 h hw) (zWl9 h hw)
theorem zWg10r {S : z_Shp} {w : Nat} {i : Int32} (h : z_L S) (hw : z_isW w) (hi : vp_in i 2) : z_r S (w + 10) i.toNatClampNeg = some (w + 11 + i.toNatClampNeg) := z_2 (P := fun q => z_r S (w + 10) q = some (w + 11 + q)) hi (zWr10_0 h hw) (zWr10_1 h hw)
theorem zWg10k {S : z_Shp} {w : Nat} {i : Int32} (h : z_L S) (hw : z_isW w) (hi : vp_in i 2) : z_k S (w + 11 + i.toNatClampNeg) = 21 := z_2 (P := fun q => z_k S (w + 11 + q) = 21) hi (zWk11 h hw) (zWk12 h hw)
theorem zWg10l {S : z_Shp} {w : Nat} {i : Int32} (h : z_L S) (hw : z_isW w) (hi : vp_in i 2) : z_l S (w + 11 + i.toNatClampNeg) = 25 := z_2 (P := fun q => z_l S (w + 11 + q) = 25) hi (zWl11 h hw) (zWl12 h hw)
theorem zWg13r {S : z_Shp} {w : Nat} {i : Int32} (h : z_L S) (hw : z_isW w) (hi : vp_in i 2) : z_r S (w + 13) i.toNatClampNeg = some (w + 14 + i.toNatClampNeg) := z_2 (P := fun q => z_r S (w + 13) q = some (w + 14 + q)) hi (zWr13_0 h hw) (zWr13_1 h hw)
theorem zWg13k {S : z_Shp} {w : Nat} {i : Int32} (h : z_L S) (hw : z_isW w) (hi : vp_in i 2) : z_k S (w + 14 + i.toNatClampNeg) = 21 := z_2 (P := fun q => z_k S (w + 14 + q) = 21) hi (zWk14 h hw) (zWk15 h hw)
theorem zWg13l {S : z_Shp} {w : Nat} {i : Int32} (h : z_L S) (hw : z_isW w) (hi : vp_in i 2) : z_l S (w + 14 + i.toNatClampNeg) = 25 := z_2 (P := fun q => z_l S (w + 14 + q) = 25) hi (zWl14 h hw) (zWl15 h hw)
theorem zImr {S : z_Shp} {i : Int32} (h : z_L S) (hi : vp_in i 2) : z_r S 57 i.toNatClampNeg = some (203 + 10 * i.toNatClampNeg) := by
  have h2 := z_lt_of hi
  rcases (show i.toNatClampNeg = 0 ∨ i.toNatClampNeg = 1 by omega) with e | e
  · rw [e]; exact zr_57_0 h
  · rw [e]; exact zr_57_1 h
theorem zImf {i : Int32} (hi : vp_in i 2) : z_isF (203 + 10 * i.toNatClampNeg) := by
  have h2 := z_lt_of hi
  simp only [z_isF, List.mem_cons, List.not_mem_nil, or_false]
  omega
theorem zRir {S : z_Shp} {i : Int32} (h : z_L S) (hi : vp_in i 8) : z_r S 60 i.toNatClampNeg = some (61 + 10 * i.toNatClampNeg) := by
  have h2 := z_lt_of hi
  rcases (show i.toNatClampNeg = 0 ∨ i.toNatClampNeg = 1 ∨ i.toNatClampNeg = 2 ∨ i.toNatClampNeg = 3 ∨ i.toNatClampNeg = 4 ∨ i.toNatClampNeg = 5 ∨ i.toNatClampNeg = 6 ∨ i.toNatClampNeg = 7 by omega) with e | e | e | e | e | e | e | e
  · rw [e]; exact zr_60_0 h
  · rw [e]; exact zr_60_1 h
  · rw [e]; exact zr_60_2 h
  · rw [e]; exact zr_60_3 h
  · rw [e]; exact zr_60_4 h
  · rw [e]; exact zr_60_5 h
  · rw [e]; exact zr_60_6 h
  · rw [e]; exact zr_60_7 h
theorem zRif {i : Int32} (hi : vp_in i 8) : z_isF (61 + 10 * i.toNatClampNeg) := by
  have h2 := z_lt_of hi
  simp only [z_isF, List.mem_cons, List.not_mem_nil, or_false]
  omega
theorem zRor {S : z_Shp} {i : Int32} (h : z_L S) (hi : vp_in i 15) : z_r S 168 i.toNatClampNeg = some (169 + i.toNatClampNeg) := by
  have h2 := z_lt_of hi
  rcases (show i.toNatClampNeg = 0 ∨ i.toNatClampNeg = 1 ∨ i.toNatClampNeg = 2 ∨ i.toNatClampNeg = 3 ∨ i.toNatClampNeg = 4 ∨ i.toNatClampNeg = 5 ∨ i.toNatClampNeg = 6 ∨ i.toNatClampNeg = 7 ∨ i.toNatClampNeg = 8 ∨ i.toNatClampNeg = 9 ∨ i.toNatClampNeg = 10 ∨ i.toNatClampNeg = 11 ∨ i.toNatClampNeg = 12 ∨ i.toNatClampNeg = 13 ∨ i.toNatClampNeg = 14 by omega) with e | e | e | e | e | e | e | e | e | e | e | e | e | e | e
  · rw [e]; exact zr_168_0 h
  · rw [e]; exact zr_168_1 h
  · rw [e]; exact zr_168_2 h
  · rw [e]; exact zr_168_3 h
  · rw [e]; exact zr_168_4 h
  · rw [e]; exact zr_168_5 h
  · rw [e]; exact zr_168_6 h
  · rw [e]; exact zr_168_7 h
  · rw [e]; exact zr_168_8 h
  · rw [e]; exact zr_168_9 h
  · rw [e]; exact zr_168_10 h
  · rw [e]; exact zr_168_11 h
  · rw [e]; exact zr_168_12 h
  · rw [e]; exact zr_168_13 h
  · rw [e]; exact zr_168_14 h
theorem zRok {S : z_Shp} {i : Int32} (h : z_L S) (hi : vp_in i 15) : z_k S (169 + i.toNatClampNeg) = 21 := by
  have h2 := z_lt_of hi
  rcases (show i.toNatClampNeg = 0 ∨ i.toNatClampNeg = 1 ∨ i.toNatClampNeg = 2 ∨ i.toNatClampNeg = 3 ∨ i.toNatClampNeg = 4 ∨ i.toNatClampNeg = 5 ∨ i.toNatClampNeg = 6 ∨ i.toNatClampNeg = 7 ∨ i.toNatClampNeg = 8 ∨ i.toNatClampNeg = 9 ∨ i.toNatClampNeg = 10 ∨ i.toNatClampNeg = 11 ∨ i.toNatClampNeg = 12 ∨ i.toNatClampNeg = 13 ∨ i.toNatClampNeg = 14 by omega) with e | e | e | e | e | e | e | e | e | e | e | e | e | e | e
  · rw [e]; exact zk_169 h
  · rw [e]; exact zk_170 h
  · rw [e]; exact zk_171 h
  · rw [e]; exact zk_172 h
  · rw [e]; exact zk_173 h
  · rw [e]; exact zk_174 h
  · rw [e]; exact zk_175 h
  · rw [e]; exact zk_176 h
  · rw [e]; exact zk_177 h
  · rw [e]; exact zk_178 h
  · rw [e]; exact zk_179 h
  · rw [e]; exact zk_180 h
  · rw [e]; exact zk_181 h
  · rw [e]; exact zk_182 h
  · rw [e]; exact zk_183 h
theorem zRol {S : z_Shp} {i : Int32} (h : z_L S) (hi : vp_in i 15) : z_l S (169 + i.toNatClampNeg) = 109 := by
  have h2 := z_lt_of hi
  rcases (show i.toNatClampNeg = 0 ∨ i.toNatClampNeg = 1 ∨ i.toNatClampNeg = 2 ∨ i.toNatClampNeg = 3 ∨ i.toNatClampNeg = 4 ∨ i.toNatClampNeg = 5 ∨ i.toNatClampNeg = 6 ∨ i.toNatClampNeg = 7 ∨ i.toNatClampNeg = 8 ∨ i.toNatClampNeg = 9 ∨ i.toNatClampNeg = 10 ∨ i.toNatClampNeg = 11 ∨ i.toNatClampNeg = 12 ∨ i.toNatClampNeg = 13 ∨ i.toNatClampNeg = 14 by omega) with e | e | e | e | e | e | e | e | e | e | e | e | e | e | e
  · rw [e]; exact zl_169 h
  · rw [e]; exact zl_170 h
  · rw [e]; exact zl_171 h
  · rw [e]; exact zl_172 h
  · rw [e]; exact zl_173 h
  · rw [e]; exact zl_174 h
  · rw [e]; exact zl_175 h
  · rw [e]; exact zl_176 h
  · rw [e]; exact zl_177 h
  · rw [e]; exact zl_178 h
  · rw [e]; exact zl_179 h
  · rw [e]; exact zl_180 h
  · rw [e]; exact zl_181 h
  · rw [e]; exact zl_182 h
  · rw [e]; exact zl_183 h
theorem zF_37 : z_isF 37 := by simp [z_isF]
theorem zF_47 : z_isF 47 := by simp [z_isF]
theorem zF_61 : z_isF 61 := by simp [z_isF]
theorem zF_71 : z_isF 71 := by simp [z_isF]
theorem zF_81 : z_isF 81 := by simp [z_isF]
theorem zF_91 : z_isF 91 := by simp [z_isF]
theorem zF_101 : z_isF 101 := by simp [z_isF]
theorem zF_111 : z_isF 111 := by simp [z_isF]
theorem zF_121 : z_isF 121 := by simp [z_isF]
theorem zF_131 : z_isF 131 := by simp [z_isF]
theorem zF_203 : z_isF 203 := by simp [z_isF]
theorem zF_213 : z_isF 213 := by simp [z_isF]
/-- a shift to the right without sign -/
abbrev z_us (x k : Int32) : Int32 := (x.toUInt32 >>> (k.toUInt32 &&& Int32.toUInt32 31)).toInt32
theorem z_vin {k : Int32} {n : Nat} (h : ¬ (k < 0 ∨ n ≤ k.toNatClampNeg)) : vp_in k n := h
