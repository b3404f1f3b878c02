/-! numbers: zn n = the int n; zi a = the int that is a modulo 2^32 -/
def zn (n : Nat) : Int32 := Int32.ofNat n
def zi (a : Int) : Int32 := Int32.ofInt a
def zq (n : Nat) : Int64 := Int64.ofNat n
def zw (a : Int) : Int64 := Int64.ofInt a
theorem zi_zn (n : Nat) : zi (n : Int) = zn n := Int32.ofInt_eq_ofNat
theorem zi_toInt {a : Int} (h1 : -2147483648 ≤ a) (h2 : a < 2147483648) : (zi a).toInt = a := Int32.toInt_ofInt_of_le (by omega) (by omega)
theorem zi_eta (x : Int32) : zi x.toInt = x := Int32.ofInt_toInt x
theorem zi_get (x : Int32) : ∃ a : Int, x = zi a ∧ -2147483648 ≤ a ∧ a < 2147483648 := by
  refine ⟨x.toInt, (zi_eta x).symm, ?_, ?_⟩
  · have := Int32.le_toInt x; omega
  · have := Int32.toInt_lt x; omega
theorem zi_add (a b : Int) : zi a + zi b = zi (a + b) := (Int32.ofInt_add a b).symm
theorem zi_sub (a b : Int) : zi a - zi b = zi (a - b) := (Int32.ofInt_sub a b).symm
theorem zi_mul (a b : Int) : zi a * zi b = zi (a * b) := (Int32.ofInt_mul a b).symm
theorem zi_neg (a : Int) : - zi a = zi (-a) := (Int32.ofInt_neg a).symm
theorem zi_lt {a b : Int} (h1 : -2147483648 ≤ a) (h2 : a < 2147483648) (h3 : -2147483648 ≤ b) (h4 : b < 2147483648) : (zi a < zi b) = (a < b) := by
  rw [Int32.lt_iff_toInt_lt, zi_toInt h1 h2, zi_toInt h3 h4]
theorem zi_le {a b : Int} (h1 : -2147483648 ≤ a) (h2 : a < 2147483648) (h3 : -2147483648 ≤ b) (h4 : b < 2147483648) : (zi a ≤ zi b) = (a ≤ b) := by
  rw [Int32.le_iff_toInt_le, zi_toInt h1 h2, zi_toInt h3 h4]
theorem zi_eq {a b : Int} (h1 : -2147483648 ≤ a) (h2 : a < 2147483648) (h3 : -2147483648 ≤ b) (h4 : b < 2147483648) : (zi a = zi b) = (a = b) := by
  rw [← Int32.toInt_inj, zi_toInt h1 h2, zi_toInt h3 h4]
theorem zi_nat {a : Int} (h1 : -2147483648 ≤ a) (h2 : a < 2147483648) : (zi a).toNatClampNeg = a.toNat := Int32.toNatClampNeg_ofInt_of_le (by omega) (by omega)
theorem zn_toInt {a : Nat} (h2 : a < 2147483648) : (zn a).toInt = (a : Int) := by rw [← zi_zn]; exact zi_toInt (by omega) (by omega)
theorem zn_add (a b : Nat) : zn a + zn b = zn (a + b) := by rw [← zi_zn, ← zi_zn, ← zi_zn, zi_add]; rfl
theorem zn_mul (a b : Nat) : zn a * zn b = zn (a * b) := by rw [← zi_zn, ← zi_zn, ← zi_zn, zi_mul]; rfl
theorem zn_sub {a b : Nat} (h : b ≤ a) : zn a - zn b = zn (a - b) := by rw [← zi_zn, ← zi_zn, ← zi_zn, zi_sub]; congr 1; omega
theorem zn_lt {a b : Nat} (h1 : a < 2147483648) (h2 : b < 2147483648) : (zn a < zn b) = (a < b) := by
  rw [Int32.lt_iff_toInt_lt, zn_toInt h1, zn_toInt h2]; exact propext Int.ofNat_lt
theorem zn_le {a b : Nat} (h1 : a < 2147483648) (h2 : b < 2147483648) : (zn a ≤ zn b) = (a ≤ b) := by
  rw [Int32.le_iff_toInt_le, zn_toInt h1, zn_toInt h2]; exact propext Int.ofNat_le
theorem zn_eq {a b : Nat} (h1 : a < 2147483648) (h2 : b < 2147483648) : (zn a = zn b) = (a = b) := by
  rw [← Int32.toInt_inj, zn_toInt h1, zn_toInt h2]; exact propext Int.ofNat_inj
theorem zn_nat {a : Nat} (h : a < 2147483648) : (zn a).toNatClampNeg = a := Int32.toNatClampNeg_ofNat_of_lt h
theorem zn_ge0 {a : Nat} (h : a < 2147483648) : ¬ zn a < 0 := by
  show ¬ zn a < zn 0
  rw [zn_lt h (by omega)]; omega
theorem zb_zn {a n : Nat} (h : a < n) (h2 : a < 2147483648) : zb_in (zn a) n = true := by
  simp only [zb_in, Bool.and_eq_true, decide_eq_true_eq]
  exact ⟨zn_ge0 h2, by rw [zn_nat h2]; exact h⟩
theorem zb_znF {a n : Nat} (h : n ≤ a) (h2 : a < 2147483648) : (zb_in (zn a) n = true) = False := by
  simp only [zb_in, Bool.and_eq_true, decide_eq_true_eq, zn_nat h2, eq_iff_iff, iff_false]
  omega
def zm : Int32 := -1
theorem zn_neg1 : -(zn 1) = zm := rfl
theorem zm_eq {a : Nat} (h : a < 2147483648) : (zn a = zm) = False := by
  rw [← Int32.toInt_inj, zn_toInt h, eq_iff_iff, iff_false]
  have : zm.toInt = -1 := by decide
  omega
theorem zm_eq' {a : Nat} (h : a < 2147483648) : (zm = zn a) = False := eq_false (fun q => (zm_eq h).mp q.symm)
theorem zm_lt {a : Nat} (h : a < 2147483648) : (zm < zn a) = True := by
  rw [Int32.lt_iff_toInt_lt, zn_toInt h, eq_iff_iff, iff_true]
  have : zm.toInt = -1 := by decide
  omega
theorem zm_lt' {a : Nat} (h : a < 2147483648) : (zn a < zm) = False := by
  rw [Int32.lt_iff_toInt_lt, zn_toInt h, eq_iff_iff, iff_false]
  have : zm.toInt = -1 := by decide
  omega
/-- an int is one below 0, or a number -/
theorem zn_get (x : Int32) : x < 0 ∨ ∃ n : Nat, x = zn n ∧ n < 2147483648 := by
  obtain ⟨a, rfl, h1, h2⟩ := zi_get x
  by_cases h : a < 0
  · left
    show zi a < zi 0
    rw [zi_lt h1 h2 (by omega) (by omega)]; exact h
  · right
    refine ⟨a.toNat, ?_, by omega⟩
    rw [← zi_zn]; congr 1; omega
theorem zn_lim (x : Int32) (N : Nat) (hN : N < 2147483648) : (x < 0 ∨ ¬ x < zn N) ∨ ∃ n : Nat, x = zn n ∧ n < N := by
  rcases zn_get x with h | ⟨n, rfl, h⟩
  · exact Or.inl (Or.inl h)
  · by_cases q : n < N
    · exact Or.inr ⟨n, rfl, q⟩
    · exact Or.inl (Or.inr (by rw [zn_lt h hN]; exact q))
theorem zn_l0 : (0 : Int32) = zn 0 := rfl
theorem zn_l1 : (1 : Int32) = zn 1 := rfl
theorem zn_l2 : (2 : Int32) = zn 2 := rfl
theorem zn_l3 : (3 : Int32) = zn 3 := rfl
theorem zn_l4 : (4 : Int32) = zn 4 := rfl
theorem zn_l5 : (5 : Int32) = zn 5 := rfl
theorem zn_l6 : (6 : Int32) = zn 6 := rfl
theorem zn_l7 : (7 : Int32) = zn 7 := rfl
theorem zn_l8 : (8 : Int32) = zn 8 := rfl
theorem zn_l9 : (9 : Int32) = zn 9 := rfl
theorem zn_l10 : (10 : Int32) = zn 10 := rfl
theorem zn_l11 : (11 : Int32) = zn 11 := rfl
theorem zn_l12 : (12 : Int32) = zn 12 := rfl
theorem zn_l13 : (13 : Int32) = zn 13 := rfl
theorem zn_l14 : (14 : Int32) = zn 14 := rfl
theorem zn_l15 : (15 : Int32) = zn 15 := rfl
theorem zn_l16 : (16 : Int32) = zn 16 := rfl
theorem zn_l17 : (17 : Int32) = zn 17 := rfl
theorem zn_l18 : (18 : Int32) = zn 18 := rfl
theorem zn_l19 : (19 : Int32) = zn 19 := rfl
theorem zn_l20 : (20 : Int32) = zn 20 := rfl
theorem zn_l21 : (21 : Int32) = zn 21 := rfl
theorem zn_l22 : (22 : Int32) = zn 22 := rfl
theorem zn_l23 : (23 : Int32) = zn 23 := rfl
theorem zn_l24 : (24 : Int32) = zn 24 := rfl
theorem zn_l25 : (25 : Int32) = zn 25 := rfl
theorem zn_l26 : (26 : Int32) = zn 26 := rfl
theorem zn_l27 : (27 : Int32) = zn 27 := rfl
theorem zn_l28 : (28 : Int32) = zn 28 := rfl
theorem zn_l30 : (30 : Int32) = zn 30 := rfl
theorem zn_l31 : (31 : Int32) = zn 31 := rfl
theorem zn_l32 : (32 : Int32) = zn 32 := rfl
theorem zn_l34 : (34 : Int32) = zn 34 := rfl
theorem zn_l40 : (40 : Int32) = zn 40 := rfl
theorem zn_l41 : (41 : Int32) = zn 41 := rfl
theorem zn_l44 : (44 : Int32) = zn 44 := rfl
theorem zn_l48 : (48 : Int32) = zn 48 := rfl
theorem zn_l50 : (50 : Int32) = zn 50 := rfl
theorem zn_l51 : (51 : Int32) = zn 51 := rfl
theorem zn_l57 : (57 : Int32) = zn 57 := rfl
theorem zn_l59 : (59 : Int32) = zn 59 := rfl
theorem zn_l60 : (60 : Int32) = zn 60 := rfl
theorem zn_l61 : (61 : Int32) = zn 61 := rfl
theorem zn_l62 : (62 : Int32) = zn 62 := rfl
theorem zn_l63 : (63 : Int32) = zn 63 := rfl
theorem zn_l65 : (65 : Int32) = zn 65 := rfl
theorem zn_l66 : (66 : Int32) = zn 66 := rfl
theorem zn_l67 : (67 : Int32) = zn 67 := rfl
theorem zn_l68 : (68 : Int32) = zn 68 := rfl
theorem zn_l69 : (69 : Int32) = zn 69 := rfl
theorem zn_l70 : (70 : Int32) = zn 70 := rfl
theorem zn_l71 : (71 : Int32) = zn 71 := rfl
theorem zn_l72 : (72 : Int32) = zn 72 := rfl
theorem zn_l73 : (73 : Int32) = zn 73 := rfl
theorem zn_l78 : (78 : Int32) = zn 78 := rfl
theorem zn_l80 : (80 : Int32) = zn 80 := rfl
theorem zn_l96 : (96 : Int32) = zn 96 := rfl
theorem zn_l97 : (97 : Int32) = zn 97 := rfl
theorem zn_l98 : (98 : Int32) = zn 98 := rfl
theorem zn_l99 : (99 : Int32) = zn 99 := rfl
theorem zn_l100 : (100 : Int32) = zn 100 := rfl
theorem zn_l101 : (101 : Int32) = zn 101 := rfl
theorem zn_l102 : (102 : Int32) = zn 102 := rfl
theorem zn_l103 : (103 : Int32) = zn 103 := rfl
theorem zn_l104 : (104 : Int32) = zn 104 := rfl
theorem zn_l105 : (105 : Int32) = zn 105 := rfl
theorem zn_l107 : (107 : Int32) = zn 107 := rfl
theorem zn_l108 : (108 : Int32) = zn 108 := rfl
theorem zn_l109 : (109 : Int32) = zn 109 := rfl
theorem zn_l110 : (110 : Int32) = zn 110 := rfl
theorem zn_l111 : (111 : Int32) = zn 111 := rfl
theorem zn_l112 : (112 : Int32) = zn 112 := rfl
theorem zn_l114 : (114 : Int32) = zn 114 := rfl
theorem zn_l115 : (115 : Int32) = zn 115 := rfl
theorem zn_l116 : (116 : Int32) = zn 116 := rfl
theorem zn_l117 : (117 : Int32) = zn 117 := rfl
theorem zn_l119 : (119 : Int32) = zn 119 := rfl
theorem zn_l121 : (121 : Int32) = zn 121 := rfl
theorem zn_l122 : (122 : Int32) = zn 122 := rfl
theorem zn_l144 : (144 : Int32) = zn 144 := rfl
theorem zn_l160 : (160 : Int32) = zn 160 := rfl
theorem zn_l176 : (176 : Int32) = zn 176 := rfl
theorem zn_l192 : (192 : Int32) = zn 192 := rfl
theorem zn_l200 : (200 : Int32) = zn 200 := rfl
theorem zn_l208 : (208 : Int32) = zn 208 := rfl
theorem zn_l224 : (224 : Int32) = zn 224 := rfl
theorem zn_l230 : (230 : Int32) = zn 230 := rfl
theorem zn_l236 : (236 : Int32) = zn 236 := rfl
theorem zn_l240 : (240 : Int32) = zn 240 := rfl
theorem zn_l242 : (242 : Int32) = zn 242 := rfl
theorem zn_l243 : (243 : Int32) = zn 243 := rfl
theorem zn_l255 : (255 : Int32) = zn 255 := rfl
theorem zn_l270 : (270 : Int32) = zn 270 := rfl
theorem zn_l271 : (271 : Int32) = zn 271 := rfl
theorem zn_l343 : (343 : Int32) = zn 343 := rfl
theorem zn_l400 : (400 : Int32) = zn 400 := rfl
theorem zn_l443 : (443 : Int32) = zn 443 := rfl
theorem zn_l444 : (444 : Int32) = zn 444 := rfl
theorem zn_l450 : (450 : Int32) = zn 450 := rfl
theorem zn_l456 : (456 : Int32) = zn 456 := rfl
theorem zn_l462 : (462 : Int32) = zn 462 := rfl
theorem zn_l468 : (468 : Int32) = zn 468 := rfl
theorem zn_l474 : (474 : Int32) = zn 474 := rfl
theorem zn_l480 : (480 : Int32) = zn 480 := rfl
theorem zn_l486 : (486 : Int32) = zn 486 := rfl
theorem zn_l492 : (492 : Int32) = zn 492 := rfl
theorem zn_l498 : (498 : Int32) = zn 498 := rfl
theorem zn_l504 : (504 : Int32) = zn 504 := rfl
theorem zn_l510 : (510 : Int32) = zn 510 := rfl
theorem zn_l511 : (511 : Int32) = zn 511 := rfl
theorem zn_l516 : (516 : Int32) = zn 516 := rfl
theorem zn_l517 : (517 : Int32) = zn 517 := rfl
theorem zn_l518 : (518 : Int32) = zn 518 := rfl
theorem zn_l542 : (542 : Int32) = zn 542 := rfl
theorem zn_l758 : (758 : Int32) = zn 758 := rfl
theorem zn_l900 : (900 : Int32) = zn 900 := rfl
theorem zn_l940 : (940 : Int32) = zn 940 := rfl
theorem zn_l999 : (999 : Int32) = zn 999 := rfl
theorem zn_l1000 : (1000 : Int32) = zn 1000 := rfl
theorem zn_l12345 : (12345 : Int32) = zn 12345 := rfl
theorem zn_l100000 : (100000 : Int32) = zn 100000 := rfl
theorem zn_l252645135 : (252645135 : Int32) = zn 252645135 := rfl
theorem zn_l858993459 : (858993459 : Int32) = zn 858993459 := rfl
theorem zn_l1103515245 : (1103515245 : Int32) = zn 1103515245 := rfl
theorem zn_l1431655765 : (1431655765 : Int32) = zn 1431655765 := rfl
theorem zq_l0 : (0 : Int64) = zq 0 := rfl
theorem zq_l1 : (1 : Int64) = zq 1 := rfl
theorem zq_l10 : (10 : Int64) = zq 10 := rfl
theorem zq_l12 : (12 : Int64) = zq 12 := rfl
theorem zq_l27 : (27 : Int64) = zq 27 := rfl
theorem zq_l32 : (32 : Int64) = zq 32 := rfl
theorem zq_l96 : (96 : Int64) = zq 96 := rfl
theorem zq_l1000000 : (1000000 : Int64) = zq 1000000 := rfl
theorem zq_l1000000000000 : (1000000000000 : Int64) = zq 1000000000000 := rfl
theorem ob_some {α β : Type} (x : α) (f : α → Option β) : (some x).bind f = f x := rfl
theorem zFU_ge {n : Nat} (h : n ≤ 70000) : n ≤ zFU := h
