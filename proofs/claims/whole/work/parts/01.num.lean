/-! numbers: ints and longs as images of whole numbers -/
def gz_i (z : Int) : Int32 := Int32.ofInt z
def gz_l (z : Int) : Int64 := Int64.ofInt z
theorem gz_ia (a b : Int) : gz_i a + gz_i b = gz_i (a + b) := (Int32.ofInt_add a b).symm
theorem gz_is (a b : Int) : gz_i a - gz_i b = gz_i (a - b) := (Int32.ofInt_sub a b).symm
theorem gz_im (a b : Int) : gz_i a * gz_i b = gz_i (a * b) := (Int32.ofInt_mul a b).symm
theorem gz_ing (a : Int) : -gz_i a = gz_i (-a) := (Int32.ofInt_neg a).symm
theorem gz_la (a b : Int) : gz_l a + gz_l b = gz_l (a + b) := (Int64.ofInt_add a b).symm
theorem gz_ls (a b : Int) : gz_l a - gz_l b = gz_l (a - b) := (Int64.ofInt_sub a b).symm
theorem gz_lm (a b : Int) : gz_l a * gz_l b = gz_l (a * b) := (Int64.ofInt_mul a b).symm
theorem gz_lng (a : Int) : -gz_l a = gz_l (-a) := (Int64.ofInt_neg a).symm
theorem gz_iN (n : Nat) : gz_i (n : Int) = nI n := Int32.ofInt_eq_ofNat
theorem gz_iX (x : Int32) : gz_i x.toInt = x := Int32.ofInt_toInt x
theorem gz_iXr (x : Int32) : -2147483648 ≤ x.toInt ∧ x.toInt < 2147483648 := by
  have h1 := Int32.le_toInt x
  have h2 := Int32.toInt_lt x
  omega
theorem gz_mn : Int32.minValue.toInt = -2147483648 := by rw [Int32.toInt_minValue]; decide
theorem gz_mx : Int32.maxValue.toInt = 2147483647 := by rw [Int32.toInt_maxValue]; decide
theorem gz_Mn : Int64.minValue.toInt = -9223372036854775808 := by rw [Int64.toInt_minValue]; decide
theorem gz_Mx : Int64.maxValue.toInt = 9223372036854775807 := by rw [Int64.toInt_maxValue]; decide
theorem gz_iXe (x : Int32) : ∃ z : Int, x = gz_i z ∧ -2147483648 ≤ z ∧ z < 2147483648 := ⟨x.toInt, (gz_iX x).symm, gz_iXr x⟩
theorem gz_iT {a : Int} (h : -2147483648 ≤ a ∧ a < 2147483648) : (gz_i a).toInt = a := Int32.toInt_ofInt_of_le (by omega) (by omega)
theorem gz_lT {a : Int} (h : -9223372036854775808 ≤ a ∧ a < 9223372036854775808) : (gz_l a).toInt = a := Int64.toInt_ofInt_of_le (by omega) (by omega)
theorem gz_iE {a b : Int} (ha : -2147483648 ≤ a ∧ a < 2147483648 := by omega) (hb : -2147483648 ≤ b ∧ b < 2147483648 := by omega) : gz_i a = gz_i b ↔ a = b := by
  rw [← Int32.toInt_inj, gz_iT ha, gz_iT hb]
theorem gz_iLe {a b : Int} (ha : -2147483648 ≤ a ∧ a < 2147483648 := by omega) (hb : -2147483648 ≤ b ∧ b < 2147483648 := by omega) : gz_i a ≤ gz_i b ↔ a ≤ b := by
  rw [Int32.le_iff_toInt_le, gz_iT ha, gz_iT hb]
theorem gz_iLt {a b : Int} (ha : -2147483648 ≤ a ∧ a < 2147483648 := by omega) (hb : -2147483648 ≤ b ∧ b < 2147483648 := by omega) : gz_i a < gz_i b ↔ a < b := by
  rw [Int32.lt_iff_toInt_lt, gz_iT ha, gz_iT hb]
theorem gz_iD {a b : Int} (ha : -2147483648 ≤ a ∧ a < 2147483648 := by omega) (hb : -2147483648 ≤ b ∧ b < 2147483648 := by omega) : gz_i a / gz_i b = gz_i (a.tdiv b) :=
  (Int32.ofInt_tdiv (by rw [gz_mn]; omega) (by rw [gz_mx]; omega) (by rw [gz_mn]; omega) (by rw [gz_mx]; omega)).symm
theorem gz_iR {a b : Int} (ha : -2147483648 ≤ a ∧ a < 2147483648 := by omega) (hb : -2147483648 ≤ b ∧ b < 2147483648 := by omega) : gz_i a - gz_i a / gz_i b * gz_i b = gz_i (a.tmod b) := by
  rw [gz_iD ha hb, gz_im, gz_is, Int.tmod_def, Int.mul_comm b]
theorem gz_lE {a b : Int} (ha : -9223372036854775808 ≤ a ∧ a < 9223372036854775808 := by omega) (hb : -9223372036854775808 ≤ b ∧ b < 9223372036854775808 := by omega) : gz_l a = gz_l b ↔ a = b := by
  rw [← Int64.toInt_inj, gz_lT ha, gz_lT hb]
theorem gz_lLe {a b : Int} (ha : -9223372036854775808 ≤ a ∧ a < 9223372036854775808 := by omega) (hb : -9223372036854775808 ≤ b ∧ b < 9223372036854775808 := by omega) : gz_l a ≤ gz_l b ↔ a ≤ b := by
  rw [Int64.le_iff_toInt_le, gz_lT ha, gz_lT hb]
theorem gz_lLt {a b : Int} (ha : -9223372036854775808 ≤ a ∧ a < 9223372036854775808 := by omega) (hb : -9223372036854775808 ≤ b ∧ b < 9223372036854775808 := by omega) : gz_l a < gz_l b ↔ a < b := by
  rw [Int64.lt_iff_toInt_lt, gz_lT ha, gz_lT hb]
theorem gz_lD {a b : Int} (ha : -9223372036854775808 ≤ a ∧ a < 9223372036854775808 := by omega) (hb : -9223372036854775808 ≤ b ∧ b < 9223372036854775808 := by omega) : gz_l a / gz_l b = gz_l (a.tdiv b) :=
  (Int64.ofInt_tdiv (by rw [gz_Mn]; omega) (by rw [gz_Mx]; omega) (by rw [gz_Mn]; omega) (by rw [gz_Mx]; omega)).symm
theorem gz_lR {a b : Int} (ha : -9223372036854775808 ≤ a ∧ a < 9223372036854775808 := by omega) (hb : -9223372036854775808 ≤ b ∧ b < 9223372036854775808 := by omega) : gz_l a - gz_l a / gz_l b * gz_l b = gz_l (a.tmod b) := by
  rw [gz_lD ha hb, gz_lm, gz_ls, Int.tmod_def, Int.mul_comm b]
theorem gz_il {a : Int} (ha : -2147483648 ≤ a ∧ a < 2147483648 := by omega) : (gz_i a).toInt64 = gz_l a :=
  Int32.toInt64_ofInt (by rw [gz_mn]; omega) (by rw [gz_mx]; omega)
theorem gz_li (a : Int) : (gz_l a).toInt32 = gz_i a := Int64.toInt32_ofInt
theorem gz_iq {a b : Int} (h : a = b) : gz_i a = gz_i b := by rw [h]
theorem gz_lq {a b : Int} (h : a = b) : gz_l a = gz_l b := by rw [h]
/-- branches over whole numbers -/
theorem gz_bl {x y : Int32} {A B : Prop} (a b : Int) (f : a ≤ b → A) (g : b < a → B) (hx : x = gz_i a := by rfl) (hy : y = gz_i b := by rfl)
    (ha : -2147483648 ≤ a ∧ a < 2147483648 := by omega) (hb : -2147483648 ≤ b ∧ b < 2147483648 := by omega) : (x ≤ y → A) ∧ (¬ x ≤ y → B) := by
  subst hx hy
  rw [gz_iLe ha hb]
  exact ⟨f, fun h => g (Int.not_le.1 h)⟩
theorem gz_bt {x y : Int32} {A B : Prop} (a b : Int) (f : a < b → A) (g : b ≤ a → B) (hx : x = gz_i a := by rfl) (hy : y = gz_i b := by rfl)
    (ha : -2147483648 ≤ a ∧ a < 2147483648 := by omega) (hb : -2147483648 ≤ b ∧ b < 2147483648 := by omega) : (x < y → A) ∧ (¬ x < y → B) := by
  subst hx hy
  rw [gz_iLt ha hb]
  exact ⟨f, fun h => g (Int.not_lt.1 h)⟩
theorem gz_be {x y : Int32} {A B : Prop} (a b : Int) (f : a = b → A) (g : a ≠ b → B) (hx : x = gz_i a := by rfl) (hy : y = gz_i b := by rfl)
    (ha : -2147483648 ≤ a ∧ a < 2147483648 := by omega) (hb : -2147483648 ≤ b ∧ b < 2147483648 := by omega) : (x = y → A) ∧ (¬ x = y → B) := by
  subst hx hy
  rw [gz_iE ha hb]
  exact ⟨f, g⟩
theorem gz_Ll {x y : Int64} {A B : Prop} (a b : Int) (f : a ≤ b → A) (g : b < a → B) (hx : x = gz_l a := by rfl) (hy : y = gz_l b := by rfl)
    (ha : -9223372036854775808 ≤ a ∧ a < 9223372036854775808 := by omega) (hb : -9223372036854775808 ≤ b ∧ b < 9223372036854775808 := by omega) : (x ≤ y → A) ∧ (¬ x ≤ y → B) := by
  subst hx hy
  rw [gz_lLe ha hb]
  exact ⟨f, fun h => g (Int.not_le.1 h)⟩
theorem gz_Lt {x y : Int64} {A B : Prop} (a b : Int) (f : a < b → A) (g : b ≤ a → B) (hx : x = gz_l a := by rfl) (hy : y = gz_l b := by rfl)
    (ha : -9223372036854775808 ≤ a ∧ a < 9223372036854775808 := by omega) (hb : -9223372036854775808 ≤ b ∧ b < 9223372036854775808 := by omega) : (x < y → A) ∧ (¬ x < y → B) := by
  subst hx hy
  rw [gz_lLt ha hb]
  exact ⟨f, fun h => g (Int.not_lt.1 h)⟩
theorem gz_Le {x y : Int64} {A B : Prop} (a b : Int) (f : a = b → A) (g : a ≠ b → B) (hx : x = gz_l a := by rfl) (hy : y = gz_l b := by rfl)
    (ha : -9223372036854775808 ≤ a ∧ a < 9223372036854775808 := by omega) (hb : -9223372036854775808 ≤ b ∧ b < 9223372036854775808 := by omega) : (x = y → A) ∧ (¬ x = y → B) := by
  subst hx hy
  rw [gz_lE ha hb]
  exact ⟨f, g⟩
/-- Euclid's step on whole numbers, with Java's division -/
theorem gz_e1 (b r : Int) : (b - b.tdiv r * r).natAbs = b.natAbs % r.natAbs := by
  have h : b - b.tdiv r * r = b.tmod r := by rw [Int.tmod_def, Int.mul_comm r]
  rw [h, Int.natAbs_tmod]
theorem gz_e2 (b r : Int) : (b.tdiv r).natAbs = b.natAbs / r.natAbs := Int.natAbs_tdiv b r
theorem gz_e3 {b r : Nat} (h0 : r ≠ 0) (h : r ≤ b) : 2 * (r * (b % r)) < b * r := by
  have h1 : b % r < r := Nat.mod_lt b (by omega)
  have h2 : b % r + r ≤ b := by
    have h3 := Nat.mod_add_div b r
    have h4 : 1 ≤ b / r := (Nat.le_div_iff_mul_le (by omega)).2 (by omega)
    have h5 : r * 1 ≤ r * (b / r) := Nat.mul_le_mul_left r h4
    omega
  have h6 : 2 * (b % r) < b := by omega
  have h7 : r * (2 * (b % r)) < r * b := Nat.mul_lt_mul_of_pos_left h6 (by omega)
  rw [Nat.mul_comm b r]
  rw [Nat.mul_left_comm]
  exact h7
theorem gz_e4n {w bd t rd m r b : Nat} (h1 : w ≤ bd + t * rd) (h2 : m + r * t = b) : rd * m + w * r ≤ rd * b + bd * r := by
  have h3 := Nat.mul_le_mul_right r h1
  have h4 : rd * m + (bd + t * rd) * r = rd * b + bd * r := by
    rw [← h2]
    grind
  omega
theorem gz_e4 (b r bd rd : Int) :
    rd.natAbs * (b - b.tdiv r * r).natAbs + (bd - b.tdiv r * rd).natAbs * r.natAbs ≤ rd.natAbs * b.natAbs + bd.natAbs * r.natAbs := by
  have h1 := Int.natAbs_sub_le bd (b.tdiv r * rd)
  rw [Int.natAbs_mul, gz_e2] at h1
  rw [gz_e1]
  exact gz_e4n h1 (Nat.mod_add_div b.natAbs r.natAbs)
theorem gz_e5n {X r L rd M A : Nat} (h : rd * L + X * r ≤ A) (hM : A ≤ M) (hr : 1 ≤ r) : X ≤ M ∧ X * r + rd * L ≤ M := by
  have h6 := Nat.mul_le_mul_left X hr
  omega
/-- the bound M lasts: of the other columns in Euclid's steps -/
theorem gz_e5 {b r bd rd : Int} {M : Nat} (hr : r ≠ 0)
    (h3 : rd.natAbs * b.natAbs + bd.natAbs * r.natAbs ≤ M) :
    (bd - b.tdiv r * rd).natAbs ≤ M ∧ (bd - b.tdiv r * rd).natAbs * r.natAbs + rd.natAbs * (b - b.tdiv r * r).natAbs ≤ M :=
  gz_e5n (gz_e4 b r bd rd) h3 (by omega)
