/-! the layout that the constructors leave -/
abbrev CM : Nat := 383
abbrev NN : Nat := 421
def kdL : List AK := [.inr 11, .inr 9, .inl (0, 1600), .inr 7, .inl (2, 3), .inl (2, 6), .inl (0, 6), .inl (0, 6), .inl (0, 6), .inl (0, 6), .inl (0, 6), .inl (0, 6), .inr 5, .inl (0, 270), .inl (0, 270), .inl (0, 30), .inr 5, .inl (0, 270), .inl (0, 270), .inl (0, 30), .inr 7, .inl (2, 3), .inl (2, 6), .inl (0, 6), .inl (0, 6), .inl (0, 6), .inl (0, 6), .inl (0, 6), .inl (0, 6), .inr 5, .inl (0, 270), .inl (0, 270), .inl (0, 30), .inr 5, .inl (0, 270), .inl (0, 270), .inl (0, 30), .inr 10, .inl (0, 6), .inl (0, 6), .inl (0, 6), .inl (0, 6), .inl (0, 6), .inl (0, 6), .inr 10, .inl (0, 6), .inl (0, 6), .inl (0, 6), .inl (0, 6), .inl (0, 6), .inl (0, 6), .inr 2, .inl (0, 6), .inr 0, .inl (3, 41), .inr 10, .inl (0, 6), .inl (0, 6), .inl (0, 6), .inl (0, 6), .inl (0, 6), .inl (0, 6), .inr 10, .inl (0, 6), .inl (0, 6), .inl (0, 6), .inl (0, 6), .inl (0, 6), .inl (0, 6), .inr 10, .inl (0, 6), .inl (0, 6), .inl (0, 6), .inl (0, 6), .inl (0, 6), .inl (0, 6), .inr 10, .inl (0, 6), .inl (0, 6), .inl (0, 6), .inl (0, 6), .inl (0, 6), .inl (0, 6), .inr 10, .inl (0, 6), .inl (0, 6), .inl (0, 6), .inl (0, 6), .inl (0, 6), .inl (0, 6), .inr 10, .inl (0, 6), .inl (0, 6), .inl (0, 6), .inl (0, 6), .inl (0, 6), .inl (0, 6), .inr 10, .inl (0, 6), .inl (0, 6), .inl (0, 6), .inl (0, 6), .inl (0, 6), .inl (0, 6), .inr 10, .inl (0, 6), .inl (0, 6), .inl (0, 6), .inl (0, 6), .inl (0, 6), .inl (0, 6), .inr 10, .inl (0, 6), .inl (0, 6), .inl (0, 6), .inl (0, 6), .inl (0, 6), .inl (0, 6), .inr 10, .inl (0, 6), .inl (0, 6), .inl (0, 6), .inl (0, 6), .inl (0, 6), .inl (0, 6), .inr 10, .inl (0, 6), .inl (0, 6), .inl (0, 6), .inl (0, 6), .inl (0, 6), .inl (0, 6), .inr 10, .inl (0, 6), .inl (0, 6), .inl (0, 6), .inl (0, 6), .inl (0, 6), .inl (0, 6), .inr 10, .inl (0, 6), .inl (0, 6), .inl (0, 6), .inl (0, 6), .inl (0, 6), .inl (0, 6), .inr 10, .inl (0, 6), .inl (0, 6), .inl (0, 6), .inl (0, 6), .inl (0, 6), .inl (0, 6), .inr 10, .inl (0, 6), .inl (0, 6), .inl (0, 6), .inl (0, 6), .inl (0, 6), .inl (0, 6), .inr 10, .inl (0, 6), .inl (0, 6), .inl (0, 6), .inl (0, 6), .inl (0, 6), .inl (0, 6), .inr 10, .inl (0, 6), .inl (0, 6), .inl (0, 6), .inl (0, 6), .inl (0, 6), .inl (0, 6), .inr 10, .inl (0, 6), .inl (0, 6), .inl (0, 6), .inl (0, 6), .inl (0, 6), .inl (0, 6), .inr 10, .inl (0, 6), .inl (0, 6), .inl (0, 6), .inl (0, 6), .inl (0, 6), .inl (0, 6), .inr 10, .inl (0, 6), .inl (0, 6), .inl (0, 6), .inl (0, 6), .inl (0, 6), .inl (0, 6), .inr 10, .inl (0, 6), .inl (0, 6), .inl (0, 6), .inl (0, 6), .inl (0, 6), .inl (0, 6), .inr 10, .inl (0, 6), .inl (0, 6), .inl (0, 6), .inl (0, 6), .inl (0, 6), .inl (0, 6), .inr 10, .inl (0, 6), .inl (0, 6), .inl (0, 6), .inl (0, 6), .inl (0, 6), .inl (0, 6), .inr 10, .inl (0, 6), .inl (0, 6), .inl (0, 6), .inl (0, 6), .inl (0, 6), .inl (0, 6), .inr 10, .inl (0, 6), .inl (0, 6), .inl (0, 6), .inl (0, 6), .inl (0, 6), .inl (0, 6), .inr 10, .inl (0, 6), .inl (0, 6), .inl (0, 6), .inl (0, 6), .inl (0, 6), .inl (0, 6), .inr 10, .inl (0, 6), .inl (0, 6), .inl (0, 6), .inl (0, 6), .inl (0, 6), .inl (0, 6), .inr 10, .inl (0, 6), .inl (0, 6), .inl (0, 6), .inl (0, 6), .inl (0, 6), .inl (0, 6), .inr 10, .inl (0, 6), .inl (0, 6), .inl (0, 6), .inl (0, 6), .inl (0, 6), .inl (0, 6), .inr 10, .inl (0, 6), .inl (0, 6), .inl (0, 6), .inl (0, 6), .inl (0, 6), .inl (0, 6), .inr 10, .inl (0, 6), .inl (0, 6), .inl (0, 6), .inl (0, 6), .inl (0, 6), .inl (0, 6), .inr 10, .inl (0, 6), .inl (0, 6), .inl (0, 6), .inl (0, 6), .inl (0, 6), .inl (0, 6), .inr 10, .inl (0, 6), .inl (0, 6), .inl (0, 6), .inl (0, 6), .inl (0, 6), .inl (0, 6), .inr 10, .inl (0, 6), .inl (0, 6), .inl (0, 6), .inl (0, 6), .inl (0, 6), .inl (0, 6), .inr 10, .inl (0, 6), .inl (0, 6), .inl (0, 6), .inl (0, 6), .inl (0, 6), .inl (0, 6), .inr 10, .inl (0, 6), .inl (0, 6), .inl (0, 6), .inl (0, 6), .inl (0, 6), .inl (0, 6), .inr 10, .inl (0, 6), .inl (0, 6), .inl (0, 6), .inl (0, 6), .inl (0, 6), .inl (0, 6), .inr 10, .inl (0, 6), .inl (0, 6), .inl (0, 6), .inl (0, 6), .inl (0, 6), .inl (0, 6), .inr 10, .inl (0, 6), .inl (0, 6), .inl (0, 6), .inl (0, 6), .inl (0, 6), .inl (0, 6), .inr 10, .inl (0, 6), .inl (0, 6), .inl (0, 6), .inl (0, 6), .inl (0, 6), .inl (0, 6), .inr 10, .inl (0, 6), .inl (0, 6), .inl (0, 6), .inl (0, 6), .inl (0, 6), .inl (0, 6), .inr 1, .inl (3, 3), .inl (1, 3), .inr 10, .inl (0, 6), .inl (0, 6), .inl (0, 6), .inl (0, 6), .inl (0, 6), .inl (0, 6), .inr 10, .inl (0, 6), .inl (0, 6), .inl (0, 6), .inl (0, 6), .inl (0, 6), .inl (0, 6), .inr 10, .inl (0, 6), .inl (0, 6), .inl (0, 6), .inl (0, 6), .inl (0, 6), .inl (0, 6), .inr 4, .inl (0, 30), .inl (0, 30), .inl (1, 30), .inl (0, 30), .inl (0, 30), .inl (1, 100), .inl (0, 4100), .inr 8, .inl (0, 1024), .inr 3, .inl (0, 6), .inl (0, 6), .inl (0, 6), .inr 6, .inl (0, 12), .inl (0, 25), .inr 12, .inl (0, 1600), .inl (2, 9), .inl (0, 640), .inl (0, 640), .inl (0, 2), .inl (0, 640), .inl (0, 640), .inl (0, 2), .inl (0, 160), .inl (0, 64), .inl (1, 2), .inl (0, 6), .inl (0, 6), .inl (0, 6), .inl (0, 6), .inl (0, 6), .inl (0, 6), .inl (0, 6), .inl (0, 6), .inl (0, 6), .inl (0, 6), .inl (0, 35), .inl (0, 35), .inl (0, 1400), .inl (0, 12), .inl (0, 12), .inl (0, 6), .inl (0, 6), .inl (0, 1024), .inl (0, 30), .inl (0, 30), .inl (0, 30), .inl (0, 30), .inl (1, 30), .inl (1, 100), .inl (1, 3), .inl (0, 105)]
def kdF (c : Nat) : AK := kdL.getD c (.inl (9, 0))
def rfL : List (List Nat) := [[1, 0, 0, 37, 44, 51, 53, 342, 366, 374, 376, 380, 382], [2], [], [4, 5, 6, 7, 8, 9, 10, 11, 12, 16], [], [], [], [], [], [], [], [], [13, 14, 15], [], [], [], [17, 18, 19], [], [], [], [21, 22, 23, 24, 25, 26, 27, 28, 29, 33], [], [], [], [], [], [], [], [], [30, 31, 32], [], [], [], [34, 35, 36], [], [], [], [38, 39, 40, 41, 42, 43], [], [], [], [], [], [], [45, 46, 47, 48, 49, 50], [], [], [], [], [], [], [52], [], [54], [], [56, 57, 58, 59, 60, 61], [], [], [], [], [], [], [63, 64, 65, 66, 67, 68], [], [], [], [], [], [], [70, 71, 72, 73, 74, 75], [], [], [], [], [], [], [77, 78, 79, 80, 81, 82], [], [], [], [], [], [], [84, 85, 86, 87, 88, 89], [], [], [], [], [], [], [91, 92, 93, 94, 95, 96], [], [], [], [], [], [], [98, 99, 100, 101, 102, 103], [], [], [], [], [], [], [105, 106, 107, 108, 109, 110], [], [], [], [], [], [], [112, 113, 114, 115, 116, 117], [], [], [], [], [], [], [119, 120, 121, 122, 123, 124], [], [], [], [], [], [], [126, 127, 128, 129, 130, 131], [], [], [], [], [], [], [133, 134, 135, 136, 137, 138], [], [], [], [], [], [], [140, 141, 142, 143, 144, 145], [], [], [], [], [], [], [147, 148, 149, 150, 151, 152], [], [], [], [], [], [], [154, 155, 156, 157, 158, 159], [], [], [], [], [], [], [161, 162, 163, 164, 165, 166], [], [], [], [], [], [], [168, 169, 170, 171, 172, 173], [], [], [], [], [], [], [175, 176, 177, 178, 179, 180], [], [], [], [], [], [], [182, 183, 184, 185, 186, 187], [], [], [], [], [], [], [189, 190, 191, 192, 193, 194], [], [], [], [], [], [], [196, 197, 198, 199, 200, 201], [], [], [], [], [], [], [203, 204, 205, 206, 207, 208], [], [], [], [], [], [], [210, 211, 212, 213, 214, 215], [], [], [], [], [], [], [217, 218, 219, 220, 221, 222], [], [], [], [], [], [], [224, 225, 226, 227, 228, 229], [], [], [], [], [], [], [231, 232, 233, 234, 235, 236], [], [], [], [], [], [], [238, 239, 240, 241, 242, 243], [], [], [], [], [], [], [245, 246, 247, 248, 249, 250], [], [], [], [], [], [], [252, 253, 254, 255, 256, 257], [], [], [], [], [], [], [259, 260, 261, 262, 263, 264], [], [], [], [], [], [], [266, 267, 268, 269, 270, 271], [], [], [], [], [], [], [273, 274, 275, 276, 277, 278], [], [], [], [], [], [], [280, 281, 282, 283, 284, 285], [], [], [], [], [], [], [287, 288, 289, 290, 291, 292], [], [], [], [], [], [], [294, 295, 296, 297, 298, 299], [], [], [], [], [], [], [301, 302, 303, 304, 305, 306], [], [], [], [], [], [], [308, 309, 310, 311, 312, 313], [], [], [], [], [], [], [315, 316, 317, 318, 319, 320], [], [], [], [], [], [], [322, 323, 324, 325, 326, 327], [], [], [], [], [], [], [329, 330, 331, 332, 333, 334], [], [], [], [], [], [], [336, 337, 338, 339, 340, 341], [], [], [], [], [], [], [343, 344], [], [], [346, 347, 348, 349, 350, 351], [], [], [], [], [], [], [353, 354, 355, 356, 357, 358], [], [], [], [], [], [], [360, 361, 362, 363, 364, 365], [], [], [], [], [], [], [367, 368, 369, 370, 371, 372, 373], [], [], [], [], [], [], [], [375], [], [377, 378, 379], [], [], [], [381], [], [], [384, 0, 0, 0, 0, 0, 0, 0, 0, 0, 385, 386, 387, 388, 389, 390, 391, 392, 393, 394, 0, 0, 0, 0, 0, 0, 395, 396, 397, 398, 399, 400, 401, 402, 403, 404, 0, 0, 0, 0, 0, 0, 0, 0, 0, 0, 0, 0, 0, 0, 405, 406, 407, 0, 0, 408, 409, 0, 410, 411, 0, 0, 412, 413, 414, 415, 416, 417, 0, 0, 418, 419, 420], [], [], [], [], [], [], [], [], [], [], [], [], [], [], [], [], [], [], [], [], [], [], [], [], [], [], [], [], [], [], [], [], [], [], [], [], []]
def rfF (c k : Nat) : Nat := (rfL.getD c []).getD k 0
/-- the state that the methods keep: n cells, laid out so, with the final references in their places -/
def Std (n : Nat) (h : AH) : Prop := hN h = n ∧ ∀ c, c < n → hK h c = kdF c ∧ ∀ k x, rfF c k = x + 1 → hR h c k = some (x + 1)
theorem Std.k {n : Nat} {h : AH} (s : Std n h) {c : Nat} (hc : c < n) {q : AK} (hq : kdF c = q) : c < hN h ∧ hK h c = q := ⟨by rw [s.1]; exact hc, by rw [(s.2 c hc).1, hq]⟩
theorem Std.r {n : Nat} {h : AH} (s : Std n h) {c k x : Nat} (hc : c < n) (hx : rfF c k = x + 1) : hR h c k = some (x + 1) := (s.2 c hc).2 k x hx
theorem Std.sI {n : Nat} {h : AH} (s : Std n h) (c k : Nat) (v : Int32) : Std n (sI h c k v) := s
theorem Std.sL {n : Nat} {h : AH} (s : Std n h) (c k : Nat) (v : Int64) : Std n (sL h c k v) := s
theorem Std.sF {n : Nat} {h : AH} (s : Std n h) (c : Nat) (f : Nat → Int32) : Std n (sF h c f) := s
theorem Std.sR {n : Nat} {h : AH} (s : Std n h) (c k : Nat) (v : Option Nat) (h0 : rfF c k = 0) : Std n (sR h c k v) := ⟨s.1, fun c' hc' => ⟨(s.2 c' hc').1, fun k' x hx => by
  show (if c' = c ∧ k' = k then v else hR h c' k') = _
  rw [if_neg (fun q => by rw [q.1, q.2, h0] at hx; omega)]
  exact (s.2 c' hc').2 k' x hx⟩⟩
theorem kd_len : kdL.length = 421 := by decide +kernel
theorem kd_big : ∀ c, 421 ≤ c → kdF c = .inl (9, 0) := fun c hc => by rw [kdF, List.getD_eq_getElem?_getD, List.getElem?_eq_none (by rw [kd_len]; exact hc)]; rfl
theorem kd_in {c ci : Nat} (h : kdF c = .inr ci) : c < 421 := Nat.lt_of_not_le fun hc => by rw [kd_big c hc] at h; cases h
theorem kd_dec {P : Nat → Prop} [d : DecidablePred P] (h : (List.range 421).all (fun c => decide (P c)) = true) : ∀ c, c < 421 → P c := fun c hc => by simpa using List.all_eq_true.mp h c (List.mem_range.mpr hc)
theorem kd_Y {c : Nat} (h : kdF c = .inr 10) : c < 383 ∧ rfF c 0 = c + 0 + 1 ∧ rfF c 1 = c + 1 + 1 ∧ rfF c 2 = c + 2 + 1 ∧ rfF c 3 = c + 3 + 1 ∧ rfF c 4 = c + 4 + 1 ∧ rfF c 5 = c + 5 + 1 ∧ kdF (c + 1) = .inl (0, 6) ∧ kdF (c + 2) = .inl (0, 6) ∧ kdF (c + 3) = .inl (0, 6) ∧ kdF (c + 4) = .inl (0, 6) ∧ kdF (c + 5) = .inl (0, 6) ∧ kdF (c + 6) = .inl (0, 6) ∧ c + 1 < 383 ∧ c + 2 < 383 ∧ c + 3 < 383 ∧ c + 4 < 383 ∧ c + 5 < 383 ∧ c + 6 < 383 := kd_dec (P := fun c => kdF c = .inr 10 → c < 383 ∧ rfF c 0 = c + 0 + 1 ∧ rfF c 1 = c + 1 + 1 ∧ rfF c 2 = c + 2 + 1 ∧ rfF c 3 = c + 3 + 1 ∧ rfF c 4 = c + 4 + 1 ∧ rfF c 5 = c + 5 + 1 ∧ kdF (c + 1) = .inl (0, 6) ∧ kdF (c + 2) = .inl (0, 6) ∧ kdF (c + 3) = .inl (0, 6) ∧ kdF (c + 4) = .inl (0, 6) ∧ kdF (c + 5) = .inl (0, 6) ∧ kdF (c + 6) = .inl (0, 6) ∧ c + 1 < 383 ∧ c + 2 < 383 ∧ c + 3 < 383 ∧ c + 4 < 383 ∧ c + 5 < 383 ∧ c + 6 < 383) (by decide +kernel) c (kd_in h) h
theorem kd_M {c : Nat} (h : kdF c = .inr 7) : c < 383 ∧ rfF c 0 = c + 0 + 1 ∧ rfF c 1 = c + 1 + 1 ∧ rfF c 2 = c + 2 + 1 ∧ rfF c 3 = c + 3 + 1 ∧ rfF c 4 = c + 4 + 1 ∧ rfF c 5 = c + 5 + 1 ∧ rfF c 6 = c + 6 + 1 ∧ rfF c 7 = c + 7 + 1 ∧ rfF c 8 = c + 8 + 1 ∧ rfF c 9 = c + 12 + 1 ∧ kdF (c + 1) = .inl (2, 3) ∧ kdF (c + 2) = .inl (2, 6) ∧ kdF (c + 3) = .inl (0, 6) ∧ kdF (c + 4) = .inl (0, 6) ∧ kdF (c + 5) = .inl (0, 6) ∧ kdF (c + 6) = .inl (0, 6) ∧ kdF (c + 7) = .inl (0, 6) ∧ kdF (c + 8) = .inl (0, 6) ∧ kdF (c + 9) = .inr 5 ∧ kdF (c + 13) = .inr 5 ∧ c + 1 < 383 ∧ c + 2 < 383 ∧ c + 3 < 383 ∧ c + 4 < 383 ∧ c + 5 < 383 ∧ c + 6 < 383 ∧ c + 7 < 383 ∧ c + 8 < 383 ∧ c + 9 < 383 ∧ c + 13 < 383 := kd_dec (P := fun c => kdF c = .inr 7 → c < 383 ∧ rfF c 0 = c + 0 + 1 ∧ rfF c 1 = c + 1 + 1 ∧ rfF c 2 = c + 2 + 1 ∧ rfF c 3 = c + 3 + 1 ∧ rfF c 4 = c + 4 + 1 ∧ rfF c 5 = c + 5 + 1 ∧ rfF c 6 = c + 6 + 1 ∧ rfF c 7 = c + 7 + 1 ∧ rfF c 8 = c + 8 + 1 ∧ rfF c 9 = c + 12 + 1 ∧ kdF (c + 1) = .inl (2, 3) ∧ kdF (c + 2) = .inl (2, 6) ∧ kdF (c + 3) = .inl (0, 6) ∧ kdF (c + 4) = .inl (0, 6) ∧ kdF (c + 5) = .inl (0, 6) ∧ kdF (c + 6) = .inl (0, 6) ∧ kdF (c + 7) = .inl (0, 6) ∧ kdF (c + 8) = .inl (0, 6) ∧ kdF (c + 9) = .inr 5 ∧ kdF (c + 13) = .inr 5 ∧ c + 1 < 383 ∧ c + 2 < 383 ∧ c + 3 < 383 ∧ c + 4 < 383 ∧ c + 5 < 383 ∧ c + 6 < 383 ∧ c + 7 < 383 ∧ c + 8 < 383 ∧ c + 9 < 383 ∧ c + 13 < 383) (by decide +kernel) c (kd_in h) h
theorem kd_F {c : Nat} (h : kdF c = .inr 5) : c < 383 ∧ rfF c 0 = c + 0 + 1 ∧ rfF c 1 = c + 1 + 1 ∧ rfF c 2 = c + 2 + 1 ∧ kdF (c + 1) = .inl (0, 270) ∧ kdF (c + 2) = .inl (0, 270) ∧ kdF (c + 3) = .inl (0, 30) ∧ c + 1 < 383 ∧ c + 2 < 383 ∧ c + 3 < 383 := kd_dec (P := fun c => kdF c = .inr 5 → c < 383 ∧ rfF c 0 = c + 0 + 1 ∧ rfF c 1 = c + 1 + 1 ∧ rfF c 2 = c + 2 + 1 ∧ kdF (c + 1) = .inl (0, 270) ∧ kdF (c + 2) = .inl (0, 270) ∧ kdF (c + 3) = .inl (0, 30) ∧ c + 1 < 383 ∧ c + 2 < 383 ∧ c + 3 < 383) (by decide +kernel) c (kd_in h) h
/-! cells of the heap and of the machine -/
theorem am_same {G : AE} {h h1 : AH} {c : Nat} {H H1 : Heap} (h0 : am_at G h c H) (hk : hK h1 c = hK h c) (hi : ∀ k, hI h1 c k = hI h c k) (hl : ∀ k, hL h1 c k = hL h c k) (hr : ∀ k, hR h1 c k = hR h c k) (hH : H1[eB G + c]? = H[eB G + c]?) : am_at G h1 c H1 := by
  have fi : hI h1 c = hI h c := funext hi
  have fl : hL h1 c = hL h c := funext hl
  have fr : ∀ k, hR h1 c k = hR h c k := hr
  have fa : ∀ t n, am_arr G h1 c t n = am_arr G h c t n := fun t n => by
    unfold am_arr
    split
    · rw [fl]
    · simp only [fr]
    · rw [fi]
  have fv : ∀ ty, am_V G h1 c ty = am_V G h c ty := fun ty => funext fun k => by
    unfold am_V
    rw [hl, hr, hi]
  unfold am_at at h0 ⊢
  rw [hk]
  split
  · rename_i q hq
    rw [hq] at h0
    exact ⟨h0.1, by rw [hH, fa]; exact h0.2⟩
  · rename_i ci hq
    rw [hq] at h0
    obtain ⟨r, h1', h2⟩ := h0
    exact ⟨r, h1', by rw [fv]; exact h2.kept hH⟩
theorem am_obj {G : AE} {h : AH} {c ci : Nat} {H : Heap} (hR : Rep G h H) (hk : c < hN h ∧ hK h c = .inr ci) {r : vw_C} (hr : classes[ci]? = some r) : t_OB (eB G + c) ((eD G).1 ci) r.2.2 ((eD G).2 ci) H (am_V G h c (tyF ci)) := by
  have h1 := hR.2 c hk.1
  unfold am_at at h1
  rw [hk.2] at h1
  obtain ⟨r', h2, h3⟩ := h1
  cases h2.symm.trans hr
  exact h3
theorem am_ar {G : AE} {h : AH} {c t n : Nat} {H : Heap} (hR : Rep G h H) (hk : c < hN h ∧ hK h c = .inl (t, n)) : t < 4 ∧ H[eB G + c]? = some (vp_cell (eA G t) (am_arr G h c t n)) := by
  have h1 := hR.2 c hk.1
  unfold am_at at h1
  rw [hk.2] at h1
  exact h1
theorem am_P {G : AE} {h : AH} {c t n : Nat} {H : Heap} (hR : Rep G h H) (hk : c < hN h ∧ hK h c = .inl (t, n)) : va_P (eD G) classes [(eB G + c, .inl (eA G t, am_arr G h c t n))] H := by
  intro k q hq
  cases k with
  | zero => cases hq; exact (am_ar hR hk).2
  | succ k => simp at hq
theorem at_tys (G : AE) : ∀ t, t < 4 → (atys G)[t]? = some (eA G t, aty t) := fun t ht => by
  rcases (show t = 0 ∨ t = 1 ∨ t = 2 ∨ t = 3 by omega) with rfl | rfl | rfl | rfl <;> rfl
/-- one cell written, the others as they were -/
theorem rep_set {G : AE} {h h1 : AH} {c : Nat} {H H1 : Heap} (hR0 : Rep G h H) (hn : hN h1 = hN h) (hk : ∀ q, hK h1 q = hK h q) (hi : ∀ q, q ≠ c → ∀ k, hI h1 q k = hI h q k) (hl : ∀ q, q ≠ c → ∀ k, hL h1 q k = hL h q k) (hr : ∀ q, q ≠ c → ∀ k, hR h1 q k = hR h q k)
    (z : H1.size = H.size) (oq : ∀ q, q ≠ eB G + c → H1[q]? = H[q]?) (hc : am_at G h1 c H1) : Rep G h1 H1 := by
  refine ⟨by rw [z, hn]; exact hR0.1, fun q hq => ?_⟩
  by_cases e : q = c
  · rw [e]; exact hc
  · exact am_same (hR0.2 q (by rw [← hn]; exact hq)) (hk q) (hi q e) (hl q e) (hr q e) (oq _ (by omega))
theorem S_put {G : AE} {H0 H H1 : Heap} {locs : List Loc} {c k : Nat} (h : va_S (fun q => eB G ≤ q) H0 H locs) (z : H1.size = H.size) (oq : ∀ q, q ≠ eB G + c → H1[q]? = H[q]?) : va_S (fun q => eB G ≤ q) H0 H1 (locs ++ [⟨eB G + c, k⟩]) := h.put z oq (Nat.le_add_right _ _)
section HP
variable {α : Type} {G : AE} {S : AH → Prop} {y : MI} {R : Room} {Z : AZ} {φ : α → Option Value × AH} {kn : Nat × Nat} {pc : Nat} {lv : List (Option Value)} {st : List Value} {h : AH} {X : Option α}
theorem r_getf {c0 ci k idx N : Nat} {C : String} {T : u_T} {v : Value} (hk : S h → c0 < hN h ∧ hK h c0 = .inr ci) (hr : classes[ci]? = some (C, T, N)) (hkN : k < N) (hT : (T k).1 = C) (hlink : Cond.fieldLink y.1.cls idx C (T k).2.1 (T k).2.2.1 ∈ lw_good) (hv : S h → am_V G h c0 (tyF ci) k = cv G v) (hd : decode y.2.1 pc = .ok (.getfield idx, 3))
    (K : AR G S y R Z φ kn (pc + 3) lv (v :: st) h X) : AR G S y R Z φ kn pc lv (.ref c0 :: st) h X := by
  intro a hX hS p e s m args below meth c H ls locs C hR hSv hl
  obtain ⟨cell, q1, q2, q3, q4⟩ := am_obj hR (hk hS) hr
  obtain ⟨hx, hb, hml, hrt, hown, hts, hlocks, hK, hxw, hbs, hnm⟩ := id C
  obtain ⟨hS', hfc, kC, hkC, hkind⟩ := hK.1 ci _ hr
  obtain ⟨cf, kf, fi, f, hi, hsl⟩ := hS' k hkN
  refine W.getf hx hb hown (hts _ hlink) (by rw [← hT]; exact hi) (u_facts hfc hkC (u_lays hts (cls_in ci _ hr) hkN) hi).1 q1 (by rw [q3]; exact fun h => by cases h) (v := cv G v) ?_ rfl rfl hd (K a hX hS p e s m args below meth c H ls locs C hR hSv hl)
  rw [hsl, q4 k hkN, hv hS]
theorem am_VI {G : AE} {h : AH} {c ci k j : Nat} {v : Int32} (hj : ∀ G h, am_V G h c (tyF ci) k = .int (hI h c k)) : updV (am_V G h c (tyF ci)) k (.int v) j = am_V G (sI h c k v) c (tyF ci) j := by
  unfold updV
  split
  · rename_i e
    subst e
    rw [hj]
    simp [sI, hI]
  · rename_i e
    have e1 : hI (sI h c k v) c j = hI h c j := by simp [hI, sI, e]
    unfold am_V
    rw [e1]
    rfl
theorem am_VR {G : AE} {h : AH} {c ci k j : Nat} {x : Nat} (hj : ∀ G h, am_V G h c (tyF ci) k = va_rf ((hR h c k).map (eB G + ·))) : updV (am_V G h c (tyF ci)) k (.ref (eB G + x)) j = am_V G (sR h c k (some x)) c (tyF ci) j := by
  unfold updV
  split
  · rename_i e
    subst e
    rw [hj]
    simp [sR, hR, va_rf]
  · rename_i e
    have e1 : hR (sR h c k (some x)) c j = hR h c j := by simp [hR, sR, e]
    unfold am_V
    rw [e1]
    rfl
theorem am_VL {G : AE} {h : AH} {c ci k j : Nat} {v : Int64} (hj : ∀ G h, am_V G h c (tyF ci) k = .long (hL h c k)) : updV (am_V G h c (tyF ci)) k (.long v) j = am_V G (sL h c k v) c (tyF ci) j := by
  unfold updV
  split
  · rename_i e
    subst e
    rw [hj]
    simp [sL, hL]
  · rename_i e
    have e1 : hL (sL h c k v) c j = hL h c j := by simp [hL, sL, e]
    unfold am_V
    rw [e1]
    rfl
theorem r_putI {c0 ci k idx N : Nat} {C : String} {T : u_T} {v : Int32} (hk : S h → c0 < hN h ∧ hK h c0 = .inr ci) (hr : classes[ci]? = some (C, T, N)) (hkN : k < N) (hT : (T k).1 = C) (hfin : (T k).2.2.2 = false) (hlink : Cond.fieldLink y.1.cls idx C (T k).2.1 (T k).2.2.1 ∈ lw_good) (hj : ∀ G h, am_V G h c0 (tyF ci) k = .int (hI h c0 k)) (hn : ∀ G : AE, narrow (tyF ci k) (.int v) = .int v) (hfit : ∀ G : AE, fits (tyF ci k) (.int v) = true) (hS1 : S h → S (sI h c0 k v)) (hd : decode y.2.1 pc = .ok (.putfield idx, 3))
    (K : AR G S y R Z φ kn (pc + 3) lv st (sI h c0 k v) X) : AR G S y R Z φ kn pc lv (.int v :: .ref c0 :: st) h X := by
  intro a hX hS p e s m args below meth c H ls locs C hR0 hSv hl
  obtain ⟨cell, q1, q2, q3, q4⟩ := am_obj hR0 (hk hS) hr
  obtain ⟨hx, hb, hml, hrt, hown, hts, hlocks, hK0, hxw, hbs, hnm⟩ := id C
  have hap := va_apart (own := y.1.cls) hts (cls_in ci _ hr) (tyF ci) (cls_ty ci _ hr) (cls_nm ci _ hr) hK0 hr
  obtain ⟨hS', hfc, kC, hkC, hkind⟩ := hK0.1 ci _ hr
  obtain ⟨cf, kf, fi, f, hi, hsl⟩ := hS' k hkN
  have hlay := hts _ (cls_in ci _ hr _ (u_in_lay hkN))
  unfold u_lay at hlay
  rw [if_neg (by rw [hfin]; decide)] at hlay
  have hst := (u_facts hfc hkC (u_lays hts (cls_in ci _ hr) hkN) hi).1
  have h6 := u_store hfc hkC hkind hlay hi (cls_ty ci _ hr k hkN) (hn G) (hfit G)
  refine W.putK hx hb (f := f) ⟨hown, hts _ hlink, ⟨_, _, _, (by rw [← hT]; exact hi)⟩, hst⟩ (by rw [q2]; exact h6) q1 q3 (by rw [hsl]; exact k2_hasslot (q4 k hkN)) rfl rfl hd fun H1 e1 e2 e3 => ?_
  rw [hsl] at e1 ⊢
  have hc1 : am_at G (sI h c0 k v) c0 H1 := by
    unfold am_at
    rw [show hK (sI h c0 k v) c0 = .inr ci from (hk hS).2]
    exact ⟨_, hr, t_OB.to ⟨_, e1, q2, q3, t_set q4 hap hkN _⟩ (fun j _ => am_VI hj)⟩
  have hRep : Rep G (sI h c0 k v) H1 := rep_set hR0 rfl (fun _ => rfl) (fun q hq k' => by simp [hI, sI, sR, sL, hq]) (fun q hq k' => by simp [hL, sI, sR, sL, hq]) (fun q hq k' => by simp [hR, sI, sR, sL, hq]) e2 e3 hc1
  exact K a hX (hS1 hS) p e s m args below meth c H1 ls _ C hRep (S_put hSv e2 e3) hl
theorem r_putL {c0 ci k idx N : Nat} {C : String} {T : u_T} {v : Int64} (hk : S h → c0 < hN h ∧ hK h c0 = .inr ci) (hr : classes[ci]? = some (C, T, N)) (hkN : k < N) (hT : (T k).1 = C) (hfin : (T k).2.2.2 = false) (hlink : Cond.fieldLink y.1.cls idx C (T k).2.1 (T k).2.2.1 ∈ lw_good) (hj : ∀ G h, am_V G h c0 (tyF ci) k = .long (hL h c0 k)) (hn : ∀ G : AE, narrow (tyF ci k) (.long v) = .long v) (hfit : ∀ G : AE, fits (tyF ci k) (.long v) = true) (hS1 : S h → S (sL h c0 k v)) (hd : decode y.2.1 pc = .ok (.putfield idx, 3))
    (K : AR G S y R Z φ kn (pc + 3) lv st (sL h c0 k v) X) : AR G S y R Z φ kn pc lv (.long v :: .ref c0 :: st) h X := by
  intro a hX hS p e s m args below meth c H ls locs C hR0 hSv hl
  obtain ⟨cell, q1, q2, q3, q4⟩ := am_obj hR0 (hk hS) hr
  obtain ⟨hx, hb, hml, hrt, hown, hts, hlocks, hK0, hxw, hbs, hnm⟩ := id C
  have hap := va_apart (own := y.1.cls) hts (cls_in ci _ hr) (tyF ci) (cls_ty ci _ hr) (cls_nm ci _ hr) hK0 hr
  obtain ⟨hS', hfc, kC, hkC, hkind⟩ := hK0.1 ci _ hr
  obtain ⟨cf, kf, fi, f, hi, hsl⟩ := hS' k hkN
  have hlay := hts _ (cls_in ci _ hr _ (u_in_lay hkN))
  unfold u_lay at hlay
  rw [if_neg (by rw [hfin]; decide)] at hlay
  have hst := (u_facts hfc hkC (u_lays hts (cls_in ci _ hr) hkN) hi).1
  have h6 := u_store hfc hkC hkind hlay hi (cls_ty ci _ hr k hkN) (hn G) (hfit G)
  refine W.putK hx hb (f := f) ⟨hown, hts _ hlink, ⟨_, _, _, (by rw [← hT]; exact hi)⟩, hst⟩ (by rw [q2]; exact h6) q1 q3 (by rw [hsl]; exact k2_hasslot (q4 k hkN)) rfl rfl hd fun H1 e1 e2 e3 => ?_
  rw [hsl] at e1 ⊢
  have hc1 : am_at G (sL h c0 k v) c0 H1 := by
    unfold am_at
    rw [show hK (sL h c0 k v) c0 = .inr ci from (hk hS).2]
    exact ⟨_, hr, t_OB.to ⟨_, e1, q2, q3, t_set q4 hap hkN _⟩ (fun j _ => am_VL hj)⟩
  have hRep : Rep G (sL h c0 k v) H1 := rep_set hR0 rfl (fun _ => rfl) (fun q hq k' => by simp [hI, sI, sR, sL, hq]) (fun q hq k' => by simp [hL, sI, sR, sL, hq]) (fun q hq k' => by simp [hR, sI, sR, sL, hq]) e2 e3 hc1
  exact K a hX (hS1 hS) p e s m args below meth c H1 ls _ C hRep (S_put hSv e2 e3) hl
theorem r_putR {c0 ci k idx N : Nat} {C : String} {T : u_T} {v : Nat} (hk : S h → c0 < hN h ∧ hK h c0 = .inr ci) (hr : classes[ci]? = some (C, T, N)) (hkN : k < N) (hT : (T k).1 = C) (hfin : (T k).2.2.2 = false) (hlink : Cond.fieldLink y.1.cls idx C (T k).2.1 (T k).2.2.1 ∈ lw_good) (hj : ∀ G h, am_V G h c0 (tyF ci) k = va_rf ((hR h c0 k).map (eB G + ·))) (hn : ∀ G : AE, narrow (tyF ci k) (.ref (eB G + v)) = .ref (eB G + v)) (hfit : ∀ G : AE, fits (tyF ci k) (.ref (eB G + v)) = true) (hS1 : S h → S (sR h c0 k (some v))) (hd : decode y.2.1 pc = .ok (.putfield idx, 3))
    (K : AR G S y R Z φ kn (pc + 3) lv st (sR h c0 k (some v)) X) : AR G S y R Z φ kn pc lv (.ref v :: .ref c0 :: st) h X := by
  intro a hX hS p e s m args below meth c H ls locs C hR0 hSv hl
  obtain ⟨cell, q1, q2, q3, q4⟩ := am_obj hR0 (hk hS) hr
  obtain ⟨hx, hb, hml, hrt, hown, hts, hlocks, hK0, hxw, hbs, hnm⟩ := id C
  have hap := va_apart (own := y.1.cls) hts (cls_in ci _ hr) (tyF ci) (cls_ty ci _ hr) (cls_nm ci _ hr) hK0 hr
  obtain ⟨hS', hfc, kC, hkC, hkind⟩ := hK0.1 ci _ hr
  obtain ⟨cf, kf, fi, f, hi, hsl⟩ := hS' k hkN
  have hlay := hts _ (cls_in ci _ hr _ (u_in_lay hkN))
  unfold u_lay at hlay
  rw [if_neg (by rw [hfin]; decide)] at hlay
  have hst := (u_facts hfc hkC (u_lays hts (cls_in ci _ hr) hkN) hi).1
  have h6 := u_store hfc hkC hkind hlay hi (cls_ty ci _ hr k hkN) (hn G) (hfit G)
  refine W.putK hx hb (f := f) ⟨hown, hts _ hlink, ⟨_, _, _, (by rw [← hT]; exact hi)⟩, hst⟩ (by rw [q2]; exact h6) q1 q3 (by rw [hsl]; exact k2_hasslot (q4 k hkN)) rfl rfl hd fun H1 e1 e2 e3 => ?_
  rw [hsl] at e1 ⊢
  have hc1 : am_at G (sR h c0 k (some v)) c0 H1 := by
    unfold am_at
    rw [show hK (sR h c0 k (some v)) c0 = .inr ci from (hk hS).2]
    exact ⟨_, hr, t_OB.to ⟨_, e1, q2, q3, t_set q4 hap hkN _⟩ (fun j _ => am_VR hj)⟩
  have hRep : Rep G (sR h c0 k (some v)) H1 := rep_set hR0 rfl (fun _ => rfl) (fun q hq k' => by simp [hI, sI, sR, sL, hq]) (fun q hq k' => by simp [hL, sI, sR, sL, hq]) (fun q hq k' => by simp [hR, sI, sR, sL, hq]) e2 e3 hc1
  exact K a hX (hS1 hS) p e s m args below meth c H1 ls _ C hRep (S_put hSv e2 e3) hl
theorem r_putRF {c0 ci k idx N : Nat} {C : String} {T : u_T} {v : Nat} (hk : S h → c0 < hN h ∧ hK h c0 = .inr ci) (hr : classes[ci]? = some (C, T, N)) (hkN : k < N) (hT : (T k).1 = C) (hfin : (T k).2.2.2 = true) (hin2 : y.1.name = "<init>") (hdecl : C = y.1.cls) (hlink : Cond.fieldLink y.1.cls idx C (T k).2.1 (T k).2.2.1 ∈ lw_good) (hj : ∀ G h, am_V G h c0 (tyF ci) k = va_rf ((hR h c0 k).map (eB G + ·))) (hn : ∀ G : AE, narrow (tyF ci k) (.ref (eB G + v)) = .ref (eB G + v)) (hfit : ∀ G : AE, fits (tyF ci k) (.ref (eB G + v)) = true) (hS1 : S h → S (sR h c0 k (some v))) (hd : decode y.2.1 pc = .ok (.putfield idx, 3))
    (K : AR G S y R Z φ kn (pc + 3) lv st (sR h c0 k (some v)) X) : AR G S y R Z φ kn pc lv (.ref v :: .ref c0 :: st) h X := by
  intro a hX hS p e s m args below meth c H ls locs C hR0 hSv hl
  obtain ⟨cell, q1, q2, q3, q4⟩ := am_obj hR0 (hk hS) hr
  obtain ⟨hx, hb, hml, hrt, hown, hts, hlocks, hK0, hxw, hbs, hnm⟩ := id C
  have hap := va_apart (own := y.1.cls) hts (cls_in ci _ hr) (tyF ci) (cls_ty ci _ hr) (cls_nm ci _ hr) hK0 hr
  obtain ⟨hS', hfc, kC, hkC, hkind⟩ := hK0.1 ci _ hr
  obtain ⟨cf, kf, fi, f, hi, hsl⟩ := hS' k hkN
  have hlay := hts _ (cls_in ci _ hr _ (u_in_lay hkN))
  unfold u_lay at hlay
  rw [if_pos hfin] at hlay
  have hst := (u_facts hfc hkC (u_lays hts (cls_in ci _ hr) hkN) hi).1
  have hcf : m.cls = cf := by
    obtain ⟨_, _, c', _, _, _, -, -, hf', -, -, -, hown2, -⟩ := Cond.laysFinal_spec hlay
    have e1 : c' = cf := by have := hi.symm.trans hf'; simp at this; exact this.1.symm
    rw [hT, hdecl] at hown2
    rw [← e1]; exact Option.some.inj (hown.symm.trans hown2)
  have h6 := u_fits hfc hkC hkind (Or.inr hlay) hi (cls_ty ci _ hr k hkN) (hn G) (hfit G)
  refine W.putFinK hx hb hown (hts _ hlink) (by rw [← hT]; exact hi) hst hcf (by rw [hnm]; exact hin2) (by rw [q2]; exact h6) q1 q3 (by rw [hsl]; exact k2_hasslot (q4 k hkN)) rfl rfl hd fun H1 e1 e2 e3 => ?_
  rw [hsl] at e1 ⊢
  have hc1 : am_at G (sR h c0 k (some v)) c0 H1 := by
    unfold am_at
    rw [show hK (sR h c0 k (some v)) c0 = .inr ci from (hk hS).2]
    exact ⟨_, hr, t_OB.to ⟨_, e1, q2, q3, t_set q4 hap hkN _⟩ (fun j _ => am_VR hj)⟩
  have hRep : Rep G (sR h c0 k (some v)) H1 := rep_set hR0 rfl (fun _ => rfl) (fun q hq k' => by simp [hI, sI, sR, sL, hq]) (fun q hq k' => by simp [hL, sI, sR, sL, hq]) (fun q hq k' => by simp [hR, sI, sR, sL, hq]) e2 e3 hc1
  exact K a hX (hS1 hS) p e s m args below meth c H1 ls _ C hRep (S_put hSv e2 e3) hl
theorem r_putIF {c0 ci k idx N : Nat} {C : String} {T : u_T} {v : Int32} (hk : S h → c0 < hN h ∧ hK h c0 = .inr ci) (hr : classes[ci]? = some (C, T, N)) (hkN : k < N) (hT : (T k).1 = C) (hfin : (T k).2.2.2 = true) (hin2 : y.1.name = "<init>") (hdecl : C = y.1.cls) (hlink : Cond.fieldLink y.1.cls idx C (T k).2.1 (T k).2.2.1 ∈ lw_good) (hj : ∀ G h, am_V G h c0 (tyF ci) k = .int (hI h c0 k)) (hn : ∀ G : AE, narrow (tyF ci k) (.int v) = .int v) (hfit : ∀ G : AE, fits (tyF ci k) (.int v) = true) (hS1 : S h → S (sI h c0 k v)) (hd : decode y.2.1 pc = .ok (.putfield idx, 3))
    (K : AR G S y R Z φ kn (pc + 3) lv st (sI h c0 k v) X) : AR G S y R Z φ kn pc lv (.int v :: .ref c0 :: st) h X := by
  intro a hX hS p e s m args below meth c H ls locs C hR0 hSv hl
  obtain ⟨cell, q1, q2, q3, q4⟩ := am_obj hR0 (hk hS) hr
  obtain ⟨hx, hb, hml, hrt, hown, hts, hlocks, hK0, hxw, hbs, hnm⟩ := id C
  have hap := va_apart (own := y.1.cls) hts (cls_in ci _ hr) (tyF ci) (cls_ty ci _ hr) (cls_nm ci _ hr) hK0 hr
  obtain ⟨hS', hfc, kC, hkC, hkind⟩ := hK0.1 ci _ hr
  obtain ⟨cf, kf, fi, f, hi, hsl⟩ := hS' k hkN
  have hlay := hts _ (cls_in ci _ hr _ (u_in_lay hkN))
  unfold u_lay at hlay
  rw [if_pos hfin] at hlay
  have hst := (u_facts hfc hkC (u_lays hts (cls_in ci _ hr) hkN) hi).1
  have hcf : m.cls = cf := by
    obtain ⟨_, _, c', _, _, _, -, -, hf', -, -, -, hown2, -⟩ := Cond.laysFinal_spec hlay
    have e1 : c' = cf := by have := hi.symm.trans hf'; simp at this; exact this.1.symm
    rw [hT, hdecl] at hown2
    rw [← e1]; exact Option.some.inj (hown.symm.trans hown2)
  have h6 := u_fits hfc hkC hkind (Or.inr hlay) hi (cls_ty ci _ hr k hkN) (hn G) (hfit G)
  refine W.putFinK hx hb hown (hts _ hlink) (by rw [← hT]; exact hi) hst hcf (by rw [hnm]; exact hin2) (by rw [q2]; exact h6) q1 q3 (by rw [hsl]; exact k2_hasslot (q4 k hkN)) rfl rfl hd fun H1 e1 e2 e3 => ?_
  rw [hsl] at e1 ⊢
  have hc1 : am_at G (sI h c0 k v) c0 H1 := by
    unfold am_at
    rw [show hK (sI h c0 k v) c0 = .inr ci from (hk hS).2]
    exact ⟨_, hr, t_OB.to ⟨_, e1, q2, q3, t_set q4 hap hkN _⟩ (fun j _ => am_VI hj)⟩
  have hRep : Rep G (sI h c0 k v) H1 := rep_set hR0 rfl (fun _ => rfl) (fun q hq k' => by simp [hI, sI, sR, sL, hq]) (fun q hq k' => by simp [hL, sI, sR, sL, hq]) (fun q hq k' => by simp [hR, sI, sR, sL, hq]) e2 e3 hc1
  exact K a hX (hS1 hS) p e s m args below meth c H1 ls _ C hRep (S_put hSv e2 e3) hl
theorem r_iald {c0 n i0 : Nat} {i : Int32} (hk : S h → c0 < hN h ∧ hK h c0 = .inl (0, n)) (hin : vp_in i n) (hi : ix i = i0) (hd : decode y.2.1 pc = .ok (.iaload, 1)) (K : AR G S y R Z φ kn (pc + 1) lv (.int (hI h c0 i0) :: st) h X) : AR G S y R Z φ kn pc lv (.int i :: .ref c0 :: st) h X := by
  intro a hX hS p e s m args below meth c H ls locs C hR0 hSv hl
  subst hi
  exact va_iald C.1 C.2.1 C.2.2.2.2.2.2.2.1 (am_P hR0 (hk hS)) 0 0 (n := n) rfl (at_tys G 0 (by decide)) hin hd (K a hX hS p e s m args below meth c H ls locs C hR0 hSv hl)
theorem r_zald {c0 n i0 : Nat} {i : Int32} (hk : S h → c0 < hN h ∧ hK h c0 = .inl (1, n)) (hin : vp_in i n) (hi : ix i = i0) (hd : decode y.2.1 pc = .ok (.baload, 1)) (K : AR G S y R Z φ kn (pc + 1) lv (.int (hI h c0 i0) :: st) h X) : AR G S y R Z φ kn pc lv (.int i :: .ref c0 :: st) h X := by
  intro a hX hS p e s m args below meth c H ls locs C hR0 hSv hl
  subst hi
  exact va_zald C.1 C.2.1 C.2.2.2.2.2.2.2.1 (am_P hR0 (hk hS)) 0 1 (n := n) rfl (at_tys G 1 (by decide)) hin hd (K a hX hS p e s m args below meth c H ls locs C hR0 hSv hl)
theorem r_lald {c0 n i0 : Nat} {i : Int32} (hk : S h → c0 < hN h ∧ hK h c0 = .inl (2, n)) (hin : vp_in i n) (hi : ix i = i0) (hd : decode y.2.1 pc = .ok (.laload, 1)) (K : AR G S y R Z φ kn (pc + 1) lv (.long (hL h c0 i0) :: st) h X) : AR G S y R Z φ kn pc lv (.int i :: .ref c0 :: st) h X := by
  intro a hX hS p e s m args below meth c H ls locs C hR0 hSv hl
  subst hi
  exact va_lald C.1 C.2.1 C.2.2.2.2.2.2.2.1 (am_P hR0 (hk hS)) 0 2 (n := n) rfl (at_tys G 2 (by decide)) hin hd (K a hX hS p e s m args below meth c H ls locs C hR0 hSv hl)
theorem r_aald {c0 n i0 x : Nat} {i : Int32} (hk : S h → c0 < hN h ∧ hK h c0 = .inl (3, n)) (hin : vp_in i n) (hi : ix i = i0) (hx : hR h c0 i0 = some x) (hd : decode y.2.1 pc = .ok (.aaload, 1)) (K : AR G S y R Z φ kn (pc + 1) lv (.ref x :: st) h X) : AR G S y R Z φ kn pc lv (.int i :: .ref c0 :: st) h X := by
  intro a hX hS p e s m args below meth c H ls locs C hR0 hSv hl
  subst hi
  refine va_aldq C.1 C.2.1 C.2.2.2.2.2.2.2.1 (am_P hR0 (hk hS)) 0 3 (n := n) rfl (at_tys G 3 (by decide)) hin hd ?_
  have h9 : va_rf ((hR h c0 i.toNatClampNeg).map (eB G + ·)) = .ref (eB G + x) := by
    rw [show hR h c0 i.toNatClampNeg = some x from hx]
    rfl
  show W p (eL G) e R s m args below meth c H locs kn.1 kn.2 _ (F0 m (pc + 1) ls (va_rf ((hR h c0 i.toNatClampNeg).map (eB G + ·)) :: _))
  rw [h9]
  exact K a hX hS p e s m args below meth c H ls locs C hR0 hSv hl
theorem r_alen {c0 t n : Nat} (hk : S h → c0 < hN h ∧ hK h c0 = .inl (t, n)) (hd : decode y.2.1 pc = .ok (.arraylength, 1)) (K : AR G S y R Z φ kn (pc + 1) lv (.int (nI n) :: st) h X) : AR G S y R Z φ kn pc lv (.ref c0 :: st) h X := by
  intro a hX hS p e s m args below meth c H ls locs C hR0 hSv hl
  have ht := (am_ar hR0 (hk hS)).1
  have hn : (am_arr G h c0 t n).1 = n := by
    unfold am_arr
    split <;> rfl
  exact va_alen C.1 C.2.1 C.2.2.2.2.2.2.2.1 (am_P hR0 (hk hS)) 0 t (v := nI n) rfl (at_tys G t ht) (by rw [hn]; rfl) hd (K a hX hS p e s m args below meth c H ls locs C hR0 hSv hl)
theorem r_iast {c0 n i0 : Nat} {i : Int32} {v : Int32} (hk : S h → c0 < hN h ∧ hK h c0 = .inl (0, n)) (hin : vp_in i n) (hi : ix i = i0) (hS1 : S h → S (sI h c0 i0 v)) (hd : decode y.2.1 pc = .ok (.iastore, 1)) (K : AR G S y R Z φ kn (pc + 1) lv st (sI h c0 i0 v) X) : AR G S y R Z φ kn pc lv (.int v :: .int i :: .ref c0 :: st) h X := by
  intro a hX hS p e s m args below meth c H ls locs C hR0 hSv hl
  subst hi
  have hc := (am_ar hR0 (hk hS)).2
  have hK0 : va_K (eD G) classes (atys G) s := C.2.2.2.2.2.2.2.1
  refine W.iast C.1 C.2.1 hc ((hK0.2 0 _ (at_tys G 0 (by decide))).1 n (fun j => .int (hI h c0 j))) (fun q => by cases q) (by show ¬ (i < 0 ∨ (arrV _ _ _).slots.size ≤ _); rw [arrV_size]; exact hin) rfl rfl hd fun H1 e1 z oq => ?_
  have hc1 : am_at G (sI h c0 (ix i) v) c0 H1 := by
    unfold am_at
    rw [show hK (sI h c0 (ix i) v) c0 = .inl (0, n) from (hk hS).2]
    refine ⟨Nat.le_of_ble_eq_true rfl, ?_⟩
    rw [e1]
    show some ((vp_cell _ (n, _)).setSlot _ _) = some (vp_cell _ (n, _))
    rw [vp_cell_i, vp_cell_i, arrV_store]
    congr 2
    funext q
    by_cases hq : q = i.toNatClampNeg
    · subst hq
      simp [updV, hI, sI, sL, ix, vp_nar]
      try rfl
    · simp [updV, hI, sI, sL, ix, hq]
  have hRep : Rep G (sI h c0 (ix i) v) H1 := rep_set hR0 rfl (fun _ => rfl) (fun q hq k' => by simp [hI, sI, sL, hq]) (fun q hq k' => by simp [hL, sI, sL, hq]) (fun q hq k' => by simp [hR, sI, sL]) z oq hc1
  exact K a hX (hS1 hS) p e s m args below meth c H1 ls _ C hRep (S_put hSv z oq) hl
theorem r_zast {c0 n i0 : Nat} {i : Int32} {v : Int32} (hk : S h → c0 < hN h ∧ hK h c0 = .inl (1, n)) (hin : vp_in i n) (hi : ix i = i0) (hS1 : S h → S (sI h c0 i0 (vp_nar .boolean v))) (hd : decode y.2.1 pc = .ok (.bastore, 1)) (K : AR G S y R Z φ kn (pc + 1) lv st (sI h c0 i0 (vp_nar .boolean v)) X) : AR G S y R Z φ kn pc lv (.int v :: .int i :: .ref c0 :: st) h X := by
  intro a hX hS p e s m args below meth c H ls locs C hR0 hSv hl
  subst hi
  have hc := (am_ar hR0 (hk hS)).2
  have hK0 : va_K (eD G) classes (atys G) s := C.2.2.2.2.2.2.2.1
  refine W.zast C.1 C.2.1 hc ((hK0.2 1 _ (at_tys G 1 (by decide))).1 n (fun j => .int (hI h c0 j))) (fun q => by cases q) (by show ¬ (i < 0 ∨ (arrV _ _ _).slots.size ≤ _); rw [arrV_size]; exact hin) rfl rfl hd fun H1 e1 z oq => ?_
  have hc1 : am_at G (sI h c0 (ix i) (vp_nar .boolean v)) c0 H1 := by
    unfold am_at
    rw [show hK (sI h c0 (ix i) (vp_nar .boolean v)) c0 = .inl (1, n) from (hk hS).2]
    refine ⟨Nat.le_of_ble_eq_true rfl, ?_⟩
    rw [e1]
    show some ((vp_cell _ (n, _)).setSlot _ _) = some (vp_cell _ (n, _))
    rw [vp_cell_i, vp_cell_i, arrV_store]
    congr 2
    funext q
    by_cases hq : q = i.toNatClampNeg
    · subst hq
      simp [updV, hI, sI, sL, ix, vp_nar]
      try rfl
    · simp [updV, hI, sI, sL, ix, hq]
  have hRep : Rep G (sI h c0 (ix i) (vp_nar .boolean v)) H1 := rep_set hR0 rfl (fun _ => rfl) (fun q hq k' => by simp [hI, sI, sL, hq]) (fun q hq k' => by simp [hL, sI, sL, hq]) (fun q hq k' => by simp [hR, sI, sL]) z oq hc1
  exact K a hX (hS1 hS) p e s m args below meth c H1 ls _ C hRep (S_put hSv z oq) hl
theorem r_last {c0 n i0 : Nat} {i : Int32} {v : Int64} (hk : S h → c0 < hN h ∧ hK h c0 = .inl (2, n)) (hin : vp_in i n) (hi : ix i = i0) (hS1 : S h → S (sL h c0 i0 v)) (hd : decode y.2.1 pc = .ok (.lastore, 1)) (K : AR G S y R Z φ kn (pc + 1) lv st (sL h c0 i0 v) X) : AR G S y R Z φ kn pc lv (.long v :: .int i :: .ref c0 :: st) h X := by
  intro a hX hS p e s m args below meth c H ls locs C hR0 hSv hl
  subst hi
  have hc := (am_ar hR0 (hk hS)).2
  have hK0 : va_K (eD G) classes (atys G) s := C.2.2.2.2.2.2.2.1
  refine W.last C.1 C.2.1 hc ((hK0.2 2 _ (at_tys G 2 (by decide))).1 n (fun j => .long (hL h c0 j))) (fun q => by cases q) (by show ¬ (i < 0 ∨ (arrV _ _ _).slots.size ≤ _); rw [arrV_size]; exact hin) rfl rfl hd fun H1 e1 z oq => ?_
  have hc1 : am_at G (sL h c0 (ix i) v) c0 H1 := by
    unfold am_at
    rw [show hK (sL h c0 (ix i) v) c0 = .inl (2, n) from (hk hS).2]
    refine ⟨Nat.le_of_ble_eq_true rfl, ?_⟩
    rw [e1]
    show some ((vp_cell _ (n, _)).setSlot _ _) = some (vp_cell _ (n, _))
    rw [vp_cell_l, vp_cell_l, arrV_store]
    congr 2
    funext q
    by_cases hq : q = i.toNatClampNeg
    · subst hq
      simp [updV, hL, sI, sL, ix, vp_nar]
      try rfl
    · simp [updV, hL, sI, sL, ix, hq]
  have hRep : Rep G (sL h c0 (ix i) v) H1 := rep_set hR0 rfl (fun _ => rfl) (fun q hq k' => by simp [hI, sI, sL, hq]) (fun q hq k' => by simp [hL, sI, sL, hq]) (fun q hq k' => by simp [hR, sI, sL]) z oq hc1
  exact K a hX (hS1 hS) p e s m args below meth c H1 ls _ C hRep (S_put hSv z oq) hl
theorem r_aast {c0 n i0 v : Nat} {i : Int32} (hk : S h → c0 < hN h ∧ hK h c0 = .inl (3, n)) (hin : vp_in i n) (hi : ix i = i0) (hv : S h → v < hN h ∧ hK h v = .inr 10) (hS1 : S h → S (sR h c0 i0 (some v))) (hd : decode y.2.1 pc = .ok (.aastore, 1)) (K : AR G S y R Z φ kn (pc + 1) lv st (sR h c0 i0 (some v)) X) : AR G S y R Z φ kn pc lv (.ref v :: .int i :: .ref c0 :: st) h X := by
  intro a hX hS p e s m args below meth c H ls locs C hR0 hSv hl
  subst hi
  have hc := (am_ar hR0 (hk hS)).2
  have hK0 : va_K (eD G) classes (atys G) s := C.2.2.2.2.2.2.2.1
  have hlt : i.toNatClampNeg < n := Nat.not_le.mp fun q => hin (Or.inr q)
  have h0 : ¬ i < 0 := fun q => hin (Or.inl q)
  obtain ⟨cellV, g1, g2, g3, -⟩ := am_obj hR0 (hv hS) (r := ("CricketHay$Yard", F_10, 10)) rfl
  have hcls := (hK0.1 10 ("CricketHay$Yard", F_10, 10) rfl).2
  obtain ⟨kA, comp, k1, k2, k3, -⟩ := (hK0.2 3 _ (at_tys G 3 (by decide))).2
  have hcomp : comp = (eD G).1 10 := Option.some.inj (k3.symm.trans hcls.1)
  subst hcomp
  obtain ⟨kC, hkC, -⟩ := hcls.2
  refine W.aast C.1 C.2.1 hc (fun q h => by cases h) (fun h => by cases h) k1 k2 rfl hkC ⟨h0, by show _ < (arrV _ _ _).slots.size; rw [arrV_size]; exact hlt⟩ g1 (fun q h => by rw [g3] at h; cases h) (by rw [g2]; exact hkC) (by rw [g2]; exact va_assign hcls) rfl rfl hd fun H1 e1 z oq => ?_
  have hc1 : am_at G (sR h c0 (ix i) (some v)) c0 H1 := by
    unfold am_at
    rw [show hK (sR h c0 (ix i) (some v)) c0 = .inl (3, n) from (hk hS).2]
    refine ⟨Nat.le_of_ble_eq_true rfl, ?_⟩
    rw [e1]
    show some ((vp_cell _ (n, _)).setSlot _ _) = some (vp_cell _ (n, _))
    rw [vp_cell_q, vp_cell_q, arrV_store]
    congr 2
    funext q
    by_cases hq : q = i.toNatClampNeg
    · subst hq
      simp [updV, hR, sR, ix, va_rf]
    · simp [updV, hR, sR, ix, hq]
  have hRep : Rep G (sR h c0 (ix i) (some v)) H1 := rep_set hR0 rfl (fun _ => rfl) (fun q hq k' => by simp [hI, sR]) (fun q hq k' => by simp [hL, sR]) (fun q hq k' => by simp [hR, sR, hq]) z oq hc1
  exact K a hX (hS1 hS) p e s m args below meth c H1 ls _ C hRep (S_put hSv z oq) hl
end HP
