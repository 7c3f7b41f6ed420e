section
theorem pk_us {f : Nat → Int32} {k : Nat} {x : Int32} : upd f k x k = x := if_pos rfl
theorem pk_un {f : Nat → Int32} {k j : Nat} {x : Int32} (h : j ≠ k) : upd f k x j = f j := if_neg h
theorem pk_uLs {f : Nat → Int64} {k : Nat} {x : Int64} : vp_updL f k x k = x := if_pos rfl
theorem pk_uLn {f : Nat → Int64} {k j : Nat} {x : Int64} (h : j ≠ k) : vp_updL f k x j = f j := if_neg h
theorem pk_sub {a b : Nat} (h : b ≤ a) : nI a - nI b = nI (a - b) := by
  obtain ⟨c, rfl⟩ : ∃ c, a = c + b := ⟨a - b, by omega⟩
  rw [← nI_add, Int32.add_sub_cancel, Nat.add_sub_cancel]
theorem pk_m1 (n : Nat) : nI (n + 1) + (-1) = nI n := by
  rw [← nI_1, Int32.add_assoc, show (1 : Int32) + (-1) = 0 from rfl, Int32.add_zero]
theorem pk_mul (a b : Nat) : nI a * nI b = nI (a * b) := (Int32.ofNat_mul a b).symm
theorem pk_div {a d : Nat} (ha : a < 2 ^ 31) (h0 : 0 < d) (hd : d < 2 ^ 31) : nI a / nI d = nI (a / d) := by
  apply Int32.toInt_inj.mp
  rw [lg_idiv_nonneg (by rw [nI_toInt ha]; omega) (by rw [nI_toInt hd]; omega), nI_toInt ha, nI_toInt hd, nI_toInt (Nat.lt_of_le_of_lt (Nat.div_le_self a d) ha)]
  first | rfl | exact (Int.natCast_ediv _ _).symm
theorem pk_rem {a d : Nat} (ha : a < 2 ^ 31) (h0 : 0 < d) (hd : d < 2 ^ 31) : nI a - nI a / nI d * nI d = nI (a % d) := by
  rw [pk_div ha h0 hd, pk_mul, pk_sub (Nat.div_mul_le_self a d)]
  exact congrArg nI (by have := Nat.div_add_mod' a d; omega)
theorem pk_le {x y : Int32} {A B : Prop} (a b : Nat) (f : a ≤ b → A) (g : b < a → B) (hx : x = nI a := by rfl) (hy : y = nI b := by rfl) (ha : a < 2 ^ 31 := by omega) (hb : b < 2 ^ 31 := by omega) : (x ≤ y → A) ∧ (¬ x ≤ y → B) := by
  subst hx hy
  rw [nI_leI ha hb]
  exact ⟨f, fun z => g (by omega)⟩
theorem pk_lt {x y : Int32} {A B : Prop} (a b : Nat) (f : a < b → A) (g : b ≤ a → B) (hx : x = nI a := by rfl) (hy : y = nI b := by rfl) (ha : a < 2 ^ 31 := by omega) (hb : b < 2 ^ 31 := by omega) : (x < y → A) ∧ (¬ x < y → B) := by
  subst hx hy
  rw [nI_ltI ha hb]
  exact ⟨f, fun z => g (by omega)⟩
theorem pk_eq {x y : Int32} {A B : Prop} (a b : Nat) (f : a = b → A) (g : a ≠ b → B) (hx : x = nI a := by rfl) (hy : y = nI b := by rfl) (ha : a < 2 ^ 31 := by omega) (hb : b < 2 ^ 31 := by omega) : (x = y → A) ∧ (¬ x = y → B) := by
  subst hx hy
  rw [nI_eq ha hb]
  exact ⟨f, g⟩
theorem pk_in {x : Int32} (n N : Nat) (h : n < N) (hx : x = nI n := by rfl) (hN : N < 2 ^ 31 := by omega) : vp_in x N := by
  subst hx
  exact vp_in_nI h hN
theorem pk_cl {x : Int32} (n : Nat) (hx : x = nI n := by rfl) (h : n < 2 ^ 31 := by omega) : x.toNatClampNeg = n := by
  subst hx
  exact nI_clamp h
theorem pk_ix (x : Int32) {n : Nat} (hn : n < 2 ^ 31) : x < 0 ∨ nI n ≤ x ∨ ∃ j : Nat, j < n ∧ x = nI j := by
  by_cases h : x < 0
  · exact Or.inl h
  · obtain ⟨j, hj, rfl⟩ := nI_of h
    by_cases h2 : j < n
    · exact Or.inr (Or.inr ⟨j, h2, rfl⟩)
    · exact Or.inr (Or.inl (nI_le (by omega) hj))
theorem pk_loop {σ : Type} (W : Nat → Nat → σ → Prop) (I : Nat → σ → Prop) (e i0 : Nat) (s : σ) (hi : i0 ≤ e) (h0 : I i0 s) (hx : ∀ n s, I e s → W (n + 1) e s)
    (hs : ∀ n i s, i < e → I i s → (∀ s', I (i + 1) s' → W n (i + 1) s') → W (n + 1) i s) : ∃ n, W n i0 s :=
  ⟨e + 1, loop_i W I e hx hs (e + 1) i0 s hi (by omega) h0⟩
theorem pk_loopD {σ : Type} (W : Nat → Nat → σ → Prop) (I : Nat → σ → Prop) (hx : ∀ n s, I 0 s → W (n + 1) 0 s)
    (hs : ∀ n i s, I (i + 1) s → (∀ s', I i s' → W n i s') → W (n + 1) (i + 1) s) : ∀ (e : Nat) (s : σ), I e s → W (e + 1) e s := by
  intro e
  induction e with
  | zero => exact fun s h => hx 0 s h
  | succ e ih => exact fun s h => hs (e + 1) e s h (fun s' h' => ih s' h')
theorem pk_tn {n : Nat} (h : n < 2 ^ 32) : (nI n).toBitVec.toNat = n := Nat.mod_eq_of_lt h
theorem pk_shr (a s : Int32) (k : Nat) (hs : (s.toBitVec.smod 32).toNat = k) : (a >>> s).toInt = a.toInt >>> k := by
  show (a.toBitVec.sshiftRight (s.toBitVec.smod 32).toNat).toInt = _
  rw [hs, BitVec.toInt_sshiftRight]
  rfl
theorem pk_shrN {n : Nat} (h : n < 2 ^ 31) (s : Int32) (k : Nat) (hs : (s.toBitVec.smod 32).toNat = k) : nI n >>> s = nI (n / 2 ^ k) := by
  apply Int32.toInt_inj.mp
  have h2 : n / 2 ^ k ≤ n := Nat.div_le_self _ _
  rw [pk_shr _ _ k hs, nI_toInt h, nI_toInt (by omega), Int.shiftRight_eq_div_pow]
  rfl
theorem pk_shl (a s : Int32) (k : Nat) (hs : (s.toBitVec.smod 32).toNat = k) : (a <<< s).toBitVec.toNat = a.toBitVec.toNat * 2 ^ k % 2 ^ 32 := by
  show (a.toBitVec <<< (s.toBitVec.smod 32).toNat).toNat = _
  rw [hs, BitVec.toNat_shiftLeft, Nat.shiftLeft_eq]
theorem pk_shlN {n : Nat} (s : Int32) (k : Nat) (hs : (s.toBitVec.smod 32).toNat = k) (h : n * 2 ^ k < 2 ^ 32) : nI n <<< s = nI (n * 2 ^ k) := by
  apply Int32.toBitVec_inj.mp
  apply BitVec.eq_of_toNat_eq
  have hn : n < 2 ^ 32 := Nat.lt_of_le_of_lt (Nat.le_mul_of_pos_right n (Nat.two_pow_pos k)) h
  rw [pk_shl _ _ k hs, pk_tn hn, pk_tn h, Nat.mod_eq_of_lt h]
theorem lp2 {A1 A2 : Type} (W : Nat → A1 → A2 → Prop) (I : A1 → A2 → Prop) (μ : A1 → A2 → Nat) (hs : ∀ (n : Nat) (a1 : A1) (a2 : A2), I a1 a2 → (∀ (b1 : A1) (b2 : A2), I b1 b2 → μ b1 b2 < μ a1 a2 → W n b1 b2) → W (n + 1) a1 a2) (a1 : A1) (a2 : A2) (h : I a1 a2) : ∃ n, W n a1 a2 :=
  loop_m (σ := A1 × A2) (fun n s => W n s.1 s.2) (fun s => I s.1 s.2) (fun s => μ s.1 s.2) (fun n s hI hk => hs n s.1 s.2 hI (fun b1 b2 h9 hm => hk (b1, b2) h9 hm)) (a1, a2) h
theorem lp3 {A1 A2 A3 : Type} (W : Nat → A1 → A2 → A3 → Prop) (I : A1 → A2 → A3 → Prop) (μ : A1 → A2 → A3 → Nat) (hs : ∀ (n : Nat) (a1 : A1) (a2 : A2) (a3 : A3), I a1 a2 a3 → (∀ (b1 : A1) (b2 : A2) (b3 : A3), I b1 b2 b3 → μ b1 b2 b3 < μ a1 a2 a3 → W n b1 b2 b3) → W (n + 1) a1 a2 a3) (a1 : A1) (a2 : A2) (a3 : A3) (h : I a1 a2 a3) : ∃ n, W n a1 a2 a3 :=
  loop_m (σ := A1 × A2 × A3) (fun n s => W n s.1 s.2.1 s.2.2) (fun s => I s.1 s.2.1 s.2.2) (fun s => μ s.1 s.2.1 s.2.2) (fun n s hI hk => hs n s.1 s.2.1 s.2.2 hI (fun b1 b2 b3 h9 hm => hk (b1, b2, b3) h9 hm)) (a1, a2, a3) h
end
section
/-! numbers: ints and longs as images of whole numbers -/
def gz_i (z : Int) : Int32 := Int32.ofInt z
def gz_l (z : Int) : Int64 := Int64.ofInt z
theorem gz_ia (a b : Int) : gz_i a + gz_i b = gz_i (a + b) := (Int32.ofInt_add a b).symm
theorem gz_is (a b : Int) : gz_i a - gz_i b = gz_i (a - b) := (Int32.ofInt_sub a b).symm
theorem gz_im (a b : Int) : gz_i a * gz_i b = gz_i (a * b) := (Int32.ofInt_mul a b).symm
theorem gz_ing (a : Int) : -gz_i a = gz_i (-a) := (Int32.ofInt_neg a).symm
theorem gz_la (a b : Int) : gz_l a + gz_l b = gz_l (a + b) := (Int64.ofInt_add a b).symm
theorem gz_ls (a b : Int) : gz_l a - gz_l b = gz_l (a - b) := (Int64.ofInt_sub a b).symm
theorem gz_lm (a b : Int) : gz_l a * gz_l b = gz_l (a * b) := (Int64.ofInt_mul a b).symm
theorem gz_lng (a : Int) : -gz_l a = gz_l (-a) := (Int64.ofInt_neg a).symm
theorem gz_iN (n : Nat) : gz_i (n : Int) = nI n := Int32.ofInt_eq_ofNat
theorem gz_iX (x : Int32) : gz_i x.toInt = x := Int32.ofInt_toInt x
theorem gz_iXr (x : Int32) : -2147483648 ≤ x.toInt ∧ x.toInt < 2147483648 := by
  have h1 := Int32.le_toInt x
  have h2 := Int32.toInt_lt x
  omega
theorem gz_mn : Int32.minValue.toInt = -2147483648 := by rw [Int32.toInt_minValue]; decide
theorem gz_mx : Int32.maxValue.toInt = 2147483647 := by rw [Int32.toInt_maxValue]; decide
theorem gz_Mn : Int64.minValue.toInt = -9223372036854775808 := by rw [Int64.toInt_minValue]; decide
theorem gz_Mx : Int64.maxValue.toInt = 9223372036854775807 := by rw [Int64.toInt_maxValue]; decide
theorem gz_iXe (x : Int32) : ∃ z : Int, x = gz_i z ∧ -2147483648 ≤ z ∧ z < 2147483648 := ⟨x.toInt, (gz_iX x).symm, gz_iXr x⟩
theorem gz_iT {a : Int} (h : -2147483648 ≤ a ∧ a < 2147483648) : (gz_i a).toInt = a := Int32.toInt_ofInt_of_le (by omega) (by omega)
theorem gz_lT {a : Int} (h : -9223372036854775808 ≤ a ∧ a < 9223372036854775808) : (gz_l a).toInt = a := Int64.toInt_ofInt_of_le (by omega) (by omega)
theorem gz_iE {a b : Int} (ha : -2147483648 ≤ a ∧ a < 2147483648 := by omega) (hb : -2147483648 ≤ b ∧ b < 2147483648 := by omega) : gz_i a = gz_i b ↔ a = b := by
  rw [← Int32.toInt_inj, gz_iT ha, gz_iT hb]
theorem gz_iLe {a b : Int} (ha : -2147483648 ≤ a ∧ a < 2147483648 := by omega) (hb : -2147483648 ≤ b ∧ b < 2147483648 := by omega) : gz_i a ≤ gz_i b ↔ a ≤ b := by
  rw [Int32.le_iff_toInt_le, gz_iT ha, gz_iT hb]
theorem gz_iLt {a b : Int} (ha : -2147483648 ≤ a ∧ a < 2147483648 := by omega) (hb : -2147483648 ≤ b ∧ b < 2147483648 := by omega) : gz_i a < gz_i b ↔ a < b := by
  rw [Int32.lt_iff_toInt_lt, gz_iT ha, gz_iT hb]
theorem gz_iD {a b : Int} (ha : -2147483648 ≤ a ∧ a < 2147483648 := by omega) (hb : -2147483648 ≤ b ∧ b < 2147483648 := by omega) : gz_i a / gz_i b = gz_i (a.tdiv b) :=
  (Int32.ofInt_tdiv (by rw [gz_mn]; omega) (by rw [gz_mx]; omega) (by rw [gz_mn]; omega) (by rw [gz_mx]; omega)).symm
theorem gz_iR {a b : Int} (ha : -2147483648 ≤ a ∧ a < 2147483648 := by omega) (hb : -2147483648 ≤ b ∧ b < 2147483648 := by omega) : gz_i a - gz_i a / gz_i b * gz_i b = gz_i (a.tmod b) := by
  rw [gz_iD ha hb, gz_im, gz_is, Int.tmod_def, Int.mul_comm b]
theorem gz_lE {a b : Int} (ha : -9223372036854775808 ≤ a ∧ a < 9223372036854775808 := by omega) (hb : -9223372036854775808 ≤ b ∧ b < 9223372036854775808 := by omega) : gz_l a = gz_l b ↔ a = b := by
  rw [← Int64.toInt_inj, gz_lT ha, gz_lT hb]
theorem gz_lLe {a b : Int} (ha : -9223372036854775808 ≤ a ∧ a < 9223372036854775808 := by omega) (hb : -9223372036854775808 ≤ b ∧ b < 9223372036854775808 := by omega) : gz_l a ≤ gz_l b ↔ a ≤ b := by
  rw [Int64.le_iff_toInt_le, gz_lT ha, gz_lT hb]
theorem gz_lLt {a b : Int} (ha : -9223372036854775808 ≤ a ∧ a < 9223372036854775808 := by omega) (hb : -9223372036854775808 ≤ b ∧ b < 9223372036854775808 := by omega) : gz_l a < gz_l b ↔ a < b := by
  rw [Int64.lt_iff_toInt_lt, gz_lT ha, gz_lT hb]
theorem gz_lD {a b : Int} (ha : -9223372036854775808 ≤ a ∧ a < 9223372036854775808 := by omega) (hb : -9223372036854775808 ≤ b ∧ b < 9223372036854775808 := by omega) : gz_l a / gz_l b = gz_l (a.tdiv b) :=
  (Int64.ofInt_tdiv (by rw [gz_Mn]; omega) (by rw [gz_Mx]; omega) (by rw [gz_Mn]; omega) (by rw [gz_Mx]; omega)).symm
theorem gz_lR {a b : Int} (ha : -9223372036854775808 ≤ a ∧ a < 9223372036854775808 := by omega) (hb : -9223372036854775808 ≤ b ∧ b < 9223372036854775808 := by omega) : gz_l a - gz_l a / gz_l b * gz_l b = gz_l (a.tmod b) := by
  rw [gz_lD ha hb, gz_lm, gz_ls, Int.tmod_def, Int.mul_comm b]
theorem gz_il {a : Int} (ha : -2147483648 ≤ a ∧ a < 2147483648 := by omega) : (gz_i a).toInt64 = gz_l a :=
  Int32.toInt64_ofInt (by rw [gz_mn]; omega) (by rw [gz_mx]; omega)
theorem gz_li (a : Int) : (gz_l a).toInt32 = gz_i a := Int64.toInt32_ofInt
theorem gz_iq {a b : Int} (h : a = b) : gz_i a = gz_i b := by rw [h]
theorem gz_lq {a b : Int} (h : a = b) : gz_l a = gz_l b := by rw [h]
/-- branches over whole numbers -/
theorem gz_bl {x y : Int32} {A B : Prop} (a b : Int) (f : a ≤ b → A) (g : b < a → B) (hx : x = gz_i a := by rfl) (hy : y = gz_i b := by rfl)
    (ha : -2147483648 ≤ a ∧ a < 2147483648 := by omega) (hb : -2147483648 ≤ b ∧ b < 2147483648 := by omega) : (x ≤ y → A) ∧ (¬ x ≤ y → B) := by
  subst hx hy
  rw [gz_iLe ha hb]
  exact ⟨f, fun h => g (Int.not_le.1 h)⟩
theorem gz_bt {x y : Int32} {A B : Prop} (a b : Int) (f : a < b → A) (g : b ≤ a → B) (hx : x = gz_i a := by rfl) (hy : y = gz_i b := by rfl)
    (ha : -2147483648 ≤ a ∧ a < 2147483648 := by omega) (hb : -2147483648 ≤ b ∧ b < 2147483648 := by omega) : (x < y → A) ∧ (¬ x < y → B) := by
  subst hx hy
  rw [gz_iLt ha hb]
  exact ⟨f, fun h => g (Int.not_lt.1 h)⟩
theorem gz_be {x y : Int32} {A B : Prop} (a b : Int) (f : a = b → A) (g : a ≠ b → B) (hx : x = gz_i a := by rfl) (hy : y = gz_i b := by rfl)
    (ha : -2147483648 ≤ a ∧ a < 2147483648 := by omega) (hb : -2147483648 ≤ b ∧ b < 2147483648 := by omega) : (x = y → A) ∧ (¬ x = y → B) := by
  subst hx hy
  rw [gz_iE ha hb]
  exact ⟨f, g⟩
theorem gz_Ll {x y : Int64} {A B : Prop} (a b : Int) (f : a ≤ b → A) (g : b < a → B) (hx : x = gz_l a := by rfl) (hy : y = gz_l b := by rfl)
    (ha : -9223372036854775808 ≤ a ∧ a < 9223372036854775808 := by omega) (hb : -9223372036854775808 ≤ b ∧ b < 9223372036854775808 := by omega) : (x ≤ y → A) ∧ (¬ x ≤ y → B) := by
  subst hx hy
  rw [gz_lLe ha hb]
  exact ⟨f, fun h => g (Int.not_le.1 h)⟩
theorem gz_Lt {x y : Int64} {A B : Prop} (a b : Int) (f : a < b → A) (g : b ≤ a → B) (hx : x = gz_l a := by rfl) (hy : y = gz_l b := by rfl)
    (ha : -9223372036854775808 ≤ a ∧ a < 9223372036854775808 := by omega) (hb : -9223372036854775808 ≤ b ∧ b < 9223372036854775808 := by omega) : (x < y → A) ∧ (¬ x < y → B) := by
  subst hx hy
  rw [gz_lLt ha hb]
  exact ⟨f, fun h => g (Int.not_lt.1 h)⟩
theorem gz_Le {x y : Int64} {A B : Prop} (a b : Int) (f : a = b → A) (g : a ≠ b → B) (hx : x = gz_l a := by rfl) (hy : y = gz_l b := by rfl)
    (ha : -9223372036854775808 ≤ a ∧ a < 9223372036854775808 := by omega) (hb : -9223372036854775808 ≤ b ∧ b < 9223372036854775808 := by omega) : (x = y → A) ∧ (¬ x = y → B) := by
  subst hx hy
  rw [gz_lE ha hb]
  exact ⟨f, g⟩
/-- Euclid's step on whole numbers, with Java's division -/
theorem gz_e1 (b r : Int) : (b - b.tdiv r * r).natAbs = b.natAbs % r.natAbs := by
  have h : b - b.tdiv r * r = b.tmod r := by rw [Int.tmod_def, Int.mul_comm r]
  rw [h, Int.natAbs_tmod]
theorem gz_e2 (b r : Int) : (b.tdiv r).natAbs = b.natAbs / r.natAbs := Int.natAbs_tdiv b r
theorem gz_e3 {b r : Nat} (h0 : r ≠ 0) (h : r ≤ b) : 2 * (r * (b % r)) < b * r := by
  have h1 : b % r < r := Nat.mod_lt b (by omega)
  have h2 : b % r + r ≤ b := by
    have h3 := Nat.mod_add_div b r
    have h4 : 1 ≤ b / r := (Nat.le_div_iff_mul_le (by omega)).2 (by omega)
    have h5 : r * 1 ≤ r * (b / r) := Nat.mul_le_mul_left r h4
    omega
  have h6 : 2 * (b % r) < b := by omega
  have h7 : r * (2 * (b % r)) < r * b := Nat.mul_lt_mul_of_pos_left h6 (by omega)
  rw [Nat.mul_comm b r]
  rw [Nat.mul_left_comm]
  exact h7
theorem gz_e4n {w bd t rd m r b : Nat} (h1 : w ≤ bd + t * rd) (h2 : m + r * t = b) : rd * m + w * r ≤ rd * b + bd * r := by
  have h3 := Nat.mul_le_mul_right r h1
  have h4 : rd * m + (bd + t * rd) * r = rd * b + bd * r := by
    rw [← h2]
    grind
  omega
theorem gz_e4 (b r bd rd : Int) :
    rd.natAbs * (b - b.tdiv r * r).natAbs + (bd - b.tdiv r * rd).natAbs * r.natAbs ≤ rd.natAbs * b.natAbs + bd.natAbs * r.natAbs := by
  have h1 := Int.natAbs_sub_le bd (b.tdiv r * rd)
  rw [Int.natAbs_mul, gz_e2] at h1
  rw [gz_e1]
  exact gz_e4n h1 (Nat.mod_add_div b.natAbs r.natAbs)
theorem gz_e5n {X r L rd M A : Nat} (h : rd * L + X * r ≤ A) (hM : A ≤ M) (hr : 1 ≤ r) : X ≤ M ∧ X * r + rd * L ≤ M := by
  have h6 := Nat.mul_le_mul_left X hr
  omega
/-- the bound M lasts: of the other columns in Euclid's steps -/
theorem gz_e5 {b r bd rd : Int} {M : Nat} (hr : r ≠ 0)
    (h3 : rd.natAbs * b.natAbs + bd.natAbs * r.natAbs ≤ M) :
    (bd - b.tdiv r * rd).natAbs ≤ M ∧ (bd - b.tdiv r * rd).natAbs * r.natAbs + rd.natAbs * (b - b.tdiv r * r).natAbs ≤ M :=
  gz_e5n (gz_e4 b r bd rd) h3 (by omega)
end
section
/-! points, spans, minors, common divisors: pure, over Int -/
abbrev gz_V : Type := Int × Int × Int
def gz_ad (u : gz_V) (t : Int) (g : gz_V) : gz_V := (u.1 + t * g.1, u.2.1 + t * g.2.1, u.2.2 + t * g.2.2)
def gz_sm (t : Int) (g : gz_V) : gz_V := (t * g.1, t * g.2.1, t * g.2.2)
def gz_Sp (G : gz_V → Prop) (v : gz_V) : Prop :=
  ∀ S : gz_V → Prop, S (0, 0, 0) → (∀ u g t, S u → G g → S (gz_ad u t g)) → S v
theorem gz_ext {u v : gz_V} (h1 : u.1 = v.1) (h2 : u.2.1 = v.2.1) (h3 : u.2.2 = v.2.2) : u = v :=
  Prod.ext h1 (Prod.ext h2 h3)
theorem gz_Sp0 {G : gz_V → Prop} : gz_Sp G (0, 0, 0) := fun _ h _ => h
theorem gz_SpA {G : gz_V → Prop} {u g : gz_V} (t : Int) (h : gz_Sp G u) (hg : G g) : gz_Sp G (gz_ad u t g) :=
  fun S h0 hs => hs u g t (h S h0 hs) hg
theorem gz_SpG {G : gz_V → Prop} {g : gz_V} (hg : G g) : gz_Sp G g := by
  have h := gz_SpA 1 (gz_Sp0 (G := G)) hg
  have e : gz_ad (0, 0, 0) 1 g = g := gz_ext (by simp [gz_ad]) (by simp [gz_ad]) (by simp [gz_ad])
  rw [e] at h
  exact h
theorem gz_SpAd {G : gz_V → Prop} {u v : gz_V} (t : Int) (hu : gz_Sp G u) (hv : gz_Sp G v) : gz_Sp G (gz_ad u t v) := by
  refine hv (fun w => gz_Sp G (gz_ad u t w)) ?_ ?_
  · have e : gz_ad u t (0, 0, 0) = u := gz_ext (by simp [gz_ad]) (by simp [gz_ad]) (by simp [gz_ad])
    show gz_Sp G (gz_ad u t (0, 0, 0))
    rw [e]
    exact hu
  · intro w g s hw hg
    have e : gz_ad u t (gz_ad w s g) = gz_ad (gz_ad u t w) (t * s) g := by
      apply gz_ext <;> simp only [gz_ad] <;> grind
    show gz_Sp G (gz_ad u t (gz_ad w s g))
    rw [e]
    exact gz_SpA _ hw hg
theorem gz_SpM {G H : gz_V → Prop} (h : ∀ g, G g → gz_Sp H g) {v : gz_V} (hv : gz_Sp G v) : gz_Sp H v :=
  hv (gz_Sp H) gz_Sp0 (fun _ _ t hu hg => gz_SpAd t hu (h _ hg))
theorem gz_SpS {G : gz_V → Prop} {v : gz_V} (t : Int) (hv : gz_Sp G v) : gz_Sp G (gz_sm t v) := by
  have h := gz_SpAd t (gz_Sp0 (G := G)) hv
  have e : gz_ad (0, 0, 0) t v = gz_sm t v := gz_ext (by simp [gz_ad, gz_sm]) (by simp [gz_ad, gz_sm]) (by simp [gz_ad, gz_sm])
  rw [e] at h
  exact h
def gz_xy (u v : gz_V) : Int := u.1 * v.2.1 - u.2.1 * v.1
def gz_xz (u v : gz_V) : Int := u.1 * v.2.2 - u.2.2 * v.1
def gz_yz (u v : gz_V) : Int := u.2.1 * v.2.2 - u.2.2 * v.2.1
def gz_dt (u v w : gz_V) : Int := u.1 * gz_yz v w - u.2.1 * gz_xz v w + u.2.2 * gz_xy v w
def gz_M1 (G : gz_V → Prop) (I : Int → Prop) : Prop := ∀ u, G u → I u.1 ∧ I u.2.1 ∧ I u.2.2
def gz_M2 (G : gz_V → Prop) (I : Int → Prop) : Prop := ∀ u v, G u → G v → I (gz_xy u v) ∧ I (gz_xz u v) ∧ I (gz_yz u v)
def gz_M3 (G : gz_V → Prop) (I : Int → Prop) : Prop := ∀ u v w, G u → G v → G w → I (gz_dt u v w)
/-- all minors of size k lie in I -/
def gz_M (k : Nat) (G : gz_V → Prop) (I : Int → Prop) : Prop :=
  match k with
  | 0 => I 1
  | 1 => gz_M1 G I
  | 2 => gz_M2 G I
  | 3 => gz_M3 G I
  | _ => True
def gz_Id (I : Int → Prop) : Prop := I 0 ∧ ∀ a b t, I a → I b → I (a + t * b)
theorem gz_Idd (d : Int) : gz_Id (fun x => d ∣ x) :=
  ⟨Int.dvd_zero d, fun _ _ t ha hb => Int.dvd_add ha (Int.dvd_mul_of_dvd_right (b := t) hb)⟩
theorem gz_prin (I : Int → Prop) (hI : gz_Id I) : ∃ d, I d ∧ ∀ x, I x → d ∣ x := by
  have key : ∀ n : Nat, ∀ a : Int, a.natAbs ≤ n → a ≠ 0 → I a → ∃ d, I d ∧ ∀ x, I x → d ∣ x := by
    intro n
    induction n with
    | zero => intro a h h0; omega
    | succ n ih =>
      intro a ha h0 hIa
      by_cases hall : ∀ x, I x → a ∣ x
      · exact ⟨a, hIa, hall⟩
      · obtain ⟨x, hx⟩ := Classical.not_forall.mp hall
        obtain ⟨hxI, hxd⟩ := Classical.not_imp.mp hx
        have hr : I (x % a) := by
          have h := hI.2 x a (-(x / a)) hxI hIa
          have e : x + -(x / a) * a = x % a := by rw [Int.emod_def, Int.neg_mul, Int.mul_comm (x / a) a]; omega
          rw [e] at h
          exact h
        have hn : x % a ≠ 0 := fun h => hxd (Int.dvd_of_emod_eq_zero h)
        have h1 := Int.emod_nonneg x h0
        have h2 := Int.emod_lt x h0
        exact ih (x % a) (by omega) hn hr
  by_cases hz : ∃ a, a ≠ 0 ∧ I a
  · obtain ⟨a, h0, ha⟩ := hz
    exact key a.natAbs a (Nat.le_refl _) h0 ha
  · refine ⟨0, hI.1, fun x hx => ?_⟩
    by_cases h0 : x = 0
    · rw [h0]; exact Int.dvd_zero 0
    · exact absurd ⟨x, h0, hx⟩ hz
theorem gz_Mm {k : Nat} {G : gz_V → Prop} {I J : Int → Prop} (h : ∀ x, I x → J x) (H : gz_M k G I) : gz_M k G J := by
  match k, H with
  | 0, H => exact h 1 H
  | 1, H => exact fun u hu => ⟨h _ (H u hu).1, h _ (H u hu).2.1, h _ (H u hu).2.2⟩
  | 2, H => exact fun u v hu hv => ⟨h _ (H u v hu hv).1, h _ (H u v hu hv).2.1, h _ (H u v hu hv).2.2⟩
  | 3, H => exact fun u v w hu hv hw => h _ (H u v w hu hv hw)
  | _ + 4, _ => exact trivial
theorem gz_Mg {k : Nat} {G K : gz_V → Prop} {I : Int → Prop} (h : ∀ u, G u → K u) (H : gz_M k K I) : gz_M k G I := by
  match k, H with
  | 0, H => exact H
  | 1, H => exact fun u hu => H u (h u hu)
  | 2, H => exact fun u v hu hv => H u v (h u hu) (h v hv)
  | 3, H => exact fun u v w hu hv hw => H u v w (h u hu) (h v hv) (h w hw)
  | _ + 4, _ => exact trivial
theorem gz_M1s {G : gz_V → Prop} {I : Int → Prop} (hI : gz_Id I) (h : gz_M1 G I) : gz_M1 (gz_Sp G) I := fun u hu =>
  hu (fun w => I w.1 ∧ I w.2.1 ∧ I w.2.2) ⟨hI.1, hI.1, hI.1⟩ (fun w g t hw hg =>
    ⟨hI.2 _ _ t hw.1 (h g hg).1, hI.2 _ _ t hw.2.1 (h g hg).2.1, hI.2 _ _ t hw.2.2 (h g hg).2.2⟩)
theorem gz_xyl (u g v : gz_V) (t : Int) : gz_xy (gz_ad u t g) v = gz_xy u v + t * gz_xy g v := by simp only [gz_xy, gz_ad]; grind
theorem gz_xzl (u g v : gz_V) (t : Int) : gz_xz (gz_ad u t g) v = gz_xz u v + t * gz_xz g v := by simp only [gz_xz, gz_ad]; grind
theorem gz_yzl (u g v : gz_V) (t : Int) : gz_yz (gz_ad u t g) v = gz_yz u v + t * gz_yz g v := by simp only [gz_yz, gz_ad]; grind
theorem gz_xyr (u g v : gz_V) (t : Int) : gz_xy v (gz_ad u t g) = gz_xy v u + t * gz_xy v g := by simp only [gz_xy, gz_ad]; grind
theorem gz_xzr (u g v : gz_V) (t : Int) : gz_xz v (gz_ad u t g) = gz_xz v u + t * gz_xz v g := by simp only [gz_xz, gz_ad]; grind
theorem gz_yzr (u g v : gz_V) (t : Int) : gz_yz v (gz_ad u t g) = gz_yz v u + t * gz_yz v g := by simp only [gz_yz, gz_ad]; grind
theorem gz_dtl (u g v w : gz_V) (t : Int) : gz_dt (gz_ad u t g) v w = gz_dt u v w + t * gz_dt g v w := by simp only [gz_dt, gz_ad]; grind
theorem gz_dtm (u g v w : gz_V) (t : Int) : gz_dt v (gz_ad u t g) w = gz_dt v u w + t * gz_dt v g w := by
  simp only [gz_dt, gz_yzl, gz_xzl, gz_xyl]; grind
theorem gz_dtr (u g v w : gz_V) (t : Int) : gz_dt v w (gz_ad u t g) = gz_dt v w u + t * gz_dt v w g := by
  simp only [gz_dt, gz_yzr, gz_xzr, gz_xyr]; grind
/-- a form that is linear in each place keeps I from the rows to the span -/
theorem gz_lin {G : gz_V → Prop} {I : Int → Prop} (hI : gz_Id I) (f : gz_V → Int) (hl : ∀ u g t, f (gz_ad u t g) = f u + t * f g)
    (h0 : f (0, 0, 0) = 0) (h : ∀ u, G u → I (f u)) : ∀ u, gz_Sp G u → I (f u) := fun u hu =>
  hu (fun w => I (f w)) (by rw [h0]; exact hI.1) (fun w g t hw hg => by rw [hl]; exact hI.2 _ _ t hw (h g hg))
theorem gz_bil {G : gz_V → Prop} {I : Int → Prop} (hI : gz_Id I) (f : gz_V → gz_V → Int)
    (hl : ∀ u g v t, f (gz_ad u t g) v = f u v + t * f g v) (hr : ∀ u g v t, f v (gz_ad u t g) = f v u + t * f v g)
    (h0 : ∀ v, f (0, 0, 0) v = 0) (h1 : ∀ v, f v (0, 0, 0) = 0) (h : ∀ u v, G u → G v → I (f u v)) :
    ∀ u v, gz_Sp G u → gz_Sp G v → I (f u v) := fun u v hu hv =>
  gz_lin hI (fun w => f u w) (fun w g t => hr w g u t) (h1 u)
    (fun w hw => gz_lin hI (fun x => f x w) (fun x g t => hl x g w t) (h0 w) (fun x hx => h x w hx hw) u hu) v hv
theorem gz_M2s {G : gz_V → Prop} {I : Int → Prop} (hI : gz_Id I) (h : gz_M2 G I) : gz_M2 (gz_Sp G) I := by
  have h1 : ∀ u v, gz_Sp G u → G v → I (gz_xy u v) ∧ I (gz_xz u v) ∧ I (gz_yz u v) := fun u v hu hv =>
    hu (fun w => I (gz_xy w v) ∧ I (gz_xz w v) ∧ I (gz_yz w v))
      ⟨by simp only [gz_xy, Int.zero_mul, Int.sub_zero]; exact hI.1, by simp only [gz_xz, Int.zero_mul, Int.sub_zero]; exact hI.1, by simp only [gz_yz, Int.zero_mul, Int.sub_zero]; exact hI.1⟩
      (fun w g t hw hg => ⟨by rw [gz_xyl]; exact hI.2 _ _ t hw.1 (h g v hg hv).1, by rw [gz_xzl]; exact hI.2 _ _ t hw.2.1 (h g v hg hv).2.1, by rw [gz_yzl]; exact hI.2 _ _ t hw.2.2 (h g v hg hv).2.2⟩)
  exact fun u v hu hv =>
    hv (fun w => I (gz_xy u w) ∧ I (gz_xz u w) ∧ I (gz_yz u w))
      ⟨by simp only [gz_xy, Int.mul_zero, Int.sub_zero]; exact hI.1, by simp only [gz_xz, Int.mul_zero, Int.sub_zero]; exact hI.1, by simp only [gz_yz, Int.mul_zero, Int.sub_zero]; exact hI.1⟩
      (fun w g t hw hg => ⟨by rw [gz_xyr]; exact hI.2 _ _ t hw.1 (h1 u g hu hg).1, by rw [gz_xzr]; exact hI.2 _ _ t hw.2.1 (h1 u g hu hg).2.1, by rw [gz_yzr]; exact hI.2 _ _ t hw.2.2 (h1 u g hu hg).2.2⟩)
theorem gz_M3s {G : gz_V → Prop} {I : Int → Prop} (hI : gz_Id I) (h : gz_M3 G I) : gz_M3 (gz_Sp G) I := by
  have z1 : ∀ v w, gz_dt (0, 0, 0) v w = 0 := fun v w => by simp [gz_dt]
  have z2 : ∀ v w, gz_dt v (0, 0, 0) w = 0 := fun v w => by simp [gz_dt, gz_yz, gz_xz, gz_xy]
  have z3 : ∀ v w, gz_dt v w (0, 0, 0) = 0 := fun v w => by simp [gz_dt, gz_yz, gz_xz, gz_xy]
  have h1 : ∀ u v w, gz_Sp G u → G v → G w → I (gz_dt u v w) := fun u v w hu hv hw =>
    hu (fun x => I (gz_dt x v w)) (by rw [z1]; exact hI.1) (fun x g t hx hg => by rw [gz_dtl]; exact hI.2 _ _ t hx (h g v w hg hv hw))
  have h2 : ∀ u v w, gz_Sp G u → gz_Sp G v → G w → I (gz_dt u v w) := fun u v w hu hv hw =>
    hv (fun x => I (gz_dt u x w)) (by rw [z2]; exact hI.1) (fun x g t hx hg => by rw [gz_dtm]; exact hI.2 _ _ t hx (h1 u g w hu hg hw))
  exact fun u v w hu hv hw =>
    hw (fun x => I (gz_dt u v x)) (by rw [z3]; exact hI.1) (fun x g t hx hg => by rw [gz_dtr]; exact hI.2 _ _ t hx (h2 u v g hu hv hg))
/-- the minors of the span lie where those of the rows lie -/
theorem gz_Ms {k : Nat} {G : gz_V → Prop} {I : Int → Prop} (hI : gz_Id I) (H : gz_M k G I) : gz_M k (gz_Sp G) I := by
  match k, H with
  | 0, H => exact H
  | 1, H => exact gz_M1s hI H
  | 2, H => exact gz_M2s hI H
  | 3, H => exact gz_M3s hI H
  | _ + 4, _ => exact trivial
/-- n is D(k) -/
def gz_D (k : Nat) (G : gz_V → Prop) (n : Int) : Prop := 0 ≤ n ∧ ∀ d : Int, d ∣ n ↔ gz_M k G (fun x => d ∣ x)
theorem gz_Du {k : Nat} {G : gz_V → Prop} {n m : Int} (hn : gz_D k G n) (hm : gz_D k G m) : n = m :=
  Int.dvd_antisymm hn.1 hm.1 ((hm.2 n).2 ((hn.2 n).1 (Int.dvd_refl n))) ((hn.2 m).2 ((hm.2 m).1 (Int.dvd_refl m)))
theorem gz_DI {k : Nat} {G : gz_V → Prop} {I : Int → Prop} {n : Int} (hI : gz_Id I) (hD : gz_D k G n) (h : gz_M k G I) : I n := by
  obtain ⟨d, hd, hall⟩ := gz_prin I hI
  obtain ⟨e, he⟩ := (hD.2 d).2 (gz_Mm hall h)
  have h2 := hI.2 0 d e hI.1 hd
  have e2 : 0 + e * d = n := by rw [he, Int.mul_comm]; omega
  rw [e2] at h2
  exact h2
theorem gz_D0 {k : Nat} {G : gz_V → Prop} {n : Int} (hD : gz_D k G n) : n = 0 ↔ gz_M k G (fun x => (0 : Int) ∣ x) :=
  ⟨fun h => (hD.2 0).1 (by rw [h]; exact Int.dvd_refl 0), fun h => Int.zero_dvd.1 ((hD.2 0).2 h)⟩
theorem gz_Ds {k : Nat} {G : gz_V → Prop} {n : Int} (hD : gz_D k G n) : gz_D k (gz_Sp G) n :=
  ⟨hD.1, fun d => ⟨fun h => gz_Ms (gz_Idd d) ((hD.2 d).1 h), fun h => (hD.2 d).2 (gz_Mg (fun _ hu => gz_SpG hu) h)⟩⟩
/-- one row more -/
def gz_pl (G : gz_V → Prop) (v : gz_V) : gz_V → Prop := fun u => G u ∨ u = v
theorem gz_xys (m : Int) (u v : gz_V) : gz_xy (gz_sm m u) v = m * gz_xy u v ∧ gz_xy u (gz_sm m v) = m * gz_xy u v := by
  constructor <;> simp only [gz_xy, gz_sm] <;> grind
theorem gz_xzs (m : Int) (u v : gz_V) : gz_xz (gz_sm m u) v = m * gz_xz u v ∧ gz_xz u (gz_sm m v) = m * gz_xz u v := by
  constructor <;> simp only [gz_xz, gz_sm] <;> grind
theorem gz_yzs (m : Int) (u v : gz_V) : gz_yz (gz_sm m u) v = m * gz_yz u v ∧ gz_yz u (gz_sm m v) = m * gz_yz u v := by
  constructor <;> simp only [gz_yz, gz_sm] <;> grind
theorem gz_dts (m : Int) (u v w : gz_V) : gz_dt (gz_sm m u) v w = m * gz_dt u v w ∧ gz_dt u (gz_sm m v) w = m * gz_dt u v w ∧ gz_dt u v (gz_sm m w) = m * gz_dt u v w := by
  refine ⟨?_, ?_, ?_⟩ <;> simp only [gz_dt, gz_xy, gz_xz, gz_yz, gz_sm] <;> grind
theorem gz_vv (v : gz_V) : gz_xy v v = 0 ∧ gz_xz v v = 0 ∧ gz_yz v v = 0 := by
  refine ⟨?_, ?_, ?_⟩ <;> simp only [gz_xy, gz_xz, gz_yz] <;> grind
theorem gz_vvw (v w : gz_V) : gz_dt v v w = 0 ∧ gz_dt v w v = 0 ∧ gz_dt w v v = 0 := by
  refine ⟨?_, ?_, ?_⟩ <;> simp only [gz_dt, gz_xy, gz_xz, gz_yz] <;> grind
theorem gz_d0 (d m : Int) {x : Int} (h : x = 0) : d ∣ m * x := by rw [h, Int.mul_zero]; exact Int.dvd_zero d
/-- if m v is of the span, the minors with v, times m, are divisible too -/
theorem gz_Mv {k : Nat} {G : gz_V → Prop} {d m : Int} {v : gz_V} (h : gz_M k G (fun x => d ∣ x)) (hv : gz_Sp G (gz_sm m v)) :
    gz_M k (gz_pl G v) (fun x => d ∣ m * x) := by
  have hs := gz_Ms (gz_Idd d) h
  match k, h, hs with
  | 0, h, _ => exact Int.dvd_mul_of_dvd_right h
  | 1, h, hs =>
    intro u hu
    rcases hu with hu | rfl
    · exact ⟨Int.dvd_mul_of_dvd_right (h u hu).1, Int.dvd_mul_of_dvd_right (h u hu).2.1, Int.dvd_mul_of_dvd_right (h u hu).2.2⟩
    · exact hs _ hv
  | 2, h, hs =>
    intro u w hu hw
    rcases hu with hu | rfl
    · rcases hw with hw | rfl
      · exact ⟨Int.dvd_mul_of_dvd_right (h u w hu hw).1, Int.dvd_mul_of_dvd_right (h u w hu hw).2.1, Int.dvd_mul_of_dvd_right (h u w hu hw).2.2⟩
      · have q := hs u _ (gz_SpG hu) hv
        rw [(gz_xys m u w).2, (gz_xzs m u w).2, (gz_yzs m u w).2] at q
        exact q
    · rcases hw with hw | rfl
      · have q := hs _ w hv (gz_SpG hw)
        rw [(gz_xys m u w).1, (gz_xzs m u w).1, (gz_yzs m u w).1] at q
        exact q
      · exact ⟨gz_d0 d m (gz_vv w).1, gz_d0 d m (gz_vv w).2.1, gz_d0 d m (gz_vv w).2.2⟩
  | 3, h, hs =>
    intro u w y hu hw hy
    show d ∣ m * gz_dt u w y
    rcases hu with hu | rfl
    · rcases hw with hw | rfl
      · rcases hy with hy | rfl
        · exact Int.dvd_mul_of_dvd_right (h u w y hu hw hy)
        · rw [← (gz_dts m u w y).2.2]; exact hs _ _ _ (gz_SpG hu) (gz_SpG hw) hv
      · rcases hy with hy | rfl
        · rw [← (gz_dts m u w y).2.1]; exact hs _ _ _ (gz_SpG hu) hv (gz_SpG hy)
        · exact gz_d0 d m (gz_vvw y u).2.2
    · rcases hw with hw | rfl
      · rcases hy with hy | rfl
        · rw [← (gz_dts m u w y).1]; exact hs _ _ _ hv (gz_SpG hw) (gz_SpG hy)
        · exact gz_d0 d m (gz_vvw y w).2.1
      · exact gz_d0 d m (gz_vvw w y).1
  | _ + 4, _, _ => exact trivial
theorem gz_c1 {P A m g t vi w : Int} (e : P * vi = A * w) (a : m * A = g * t) : P * m * vi = g * (t * w) := by
  have e1 : P * m * vi = m * (P * vi) := by grind
  have e2 : m * (A * w) = m * A * w := by grind
  rw [e1, e, e2, a, Int.mul_assoc]
theorem gz_c2 {P A B m g t s vi w x : Int} (e : P * vi = A * w + B * x) (a : m * A = g * t) (b : m * B = g * s) : P * m * vi = g * (t * w + s * x) := by
  have e1 : P * m * vi = m * (P * vi) := by grind
  have e2 : m * (A * w + B * x) = m * A * w + m * B * x := by grind
  rw [e1, e, e2, a, b]
  grind
theorem gz_c3 {P A B C m g t s r vi w x y : Int} (e : P * vi = A * w + B * x + C * y) (a : m * A = g * t) (b : m * B = g * s) (c : m * C = g * r) : P * m * vi = g * (t * w + s * x + r * y) := by
  have e1 : P * m * vi = m * (P * vi) := by grind
  have e2 : m * (A * w + B * x + C * y) = m * A * w + m * B * x + m * C * y := by grind
  rw [e1, e, e2, a, b, c]
  grind
/-- Cramer's rule, in the three sizes -/
theorem gz_k2 {u w v : gz_V} (h : gz_dt u w v = 0) :
    (∀ c : gz_V → Int, (c = (·.1) ∨ c = (·.2.1) ∨ c = (·.2.2)) →
      gz_xy u w * c v = gz_xy v w * c u + gz_xy u v * c w ∧ gz_xz u w * c v = gz_xz v w * c u + gz_xz u v * c w ∧ gz_yz u w * c v = gz_yz v w * c u + gz_yz u v * c w) := by
  simp only [gz_dt, gz_xy, gz_xz, gz_yz] at h
  intro c hc
  rcases hc with rfl | rfl | rfl <;> refine ⟨?_, ?_, ?_⟩ <;> simp only [gz_xy, gz_xz, gz_yz] <;> grind
theorem gz_k3 (u w y v : gz_V) (c : gz_V → Int) (hc : c = (·.1) ∨ c = (·.2.1) ∨ c = (·.2.2)) :
    gz_dt u w y * c v = gz_dt v w y * c u + gz_dt u v y * c w + gz_dt u w v * c y := by
  rcases hc with rfl | rfl | rfl <;> simp only [gz_dt, gz_xy, gz_xz, gz_yz] <;> grind
def gz_J (G : gz_V → Prop) (v : gz_V) (g m x : Int) : Prop := ∃ u, gz_Sp G u ∧ gz_sm (x * m) v = gz_sm g u
theorem gz_JI (G : gz_V → Prop) (v : gz_V) (g m : Int) : gz_Id (gz_J G v g m) := by
  refine ⟨⟨(0, 0, 0), gz_Sp0, by apply gz_ext <;> simp [gz_sm]⟩, ?_⟩
  intro a b t ⟨u, hu, eu⟩ ⟨w, hw, ew⟩
  refine ⟨gz_ad u t w, gz_SpAd t hu hw, ?_⟩
  have u1 := congrArg (fun w : gz_V => w.1) eu
  have u2 := congrArg (fun w : gz_V => w.2.1) eu
  have u3 := congrArg (fun w : gz_V => w.2.2) eu
  have w1 := congrArg (fun w : gz_V => w.1) ew
  have w2 := congrArg (fun w : gz_V => w.2.1) ew
  have w3 := congrArg (fun w : gz_V => w.2.2) ew
  simp only [gz_sm] at u1 u2 u3 w1 w2 w3
  apply gz_ext <;> simp only [gz_sm, gz_ad] <;> grind
/-- the heart: m v is of the span just when D(k) divides m times D(k) of the rows with v -/
theorem gz_T {k : Nat} {G : gz_V → Prop} {v : gz_V} {g h : Int} (hg : gz_D k G g) (hh : gz_D k (gz_pl G v) h)
    (h0 : gz_M (k + 1) (gz_pl G v) (fun x => (0 : Int) ∣ x)) (gn : g ≠ 0) (m : Int) : gz_Sp G (gz_sm m v) ↔ g ∣ m * h := by
  constructor
  · intro hv
    refine gz_DI (I := fun x => g ∣ m * x) ⟨by show g ∣ m * 0; rw [Int.mul_zero]; exact Int.dvd_zero g, fun a b t ha hb => ?_⟩ hh (gz_Mv ((hg.2 g).1 (Int.dvd_refl g)) hv)
    have e : m * (a + t * b) = m * a + t * (m * b) := by grind
    show g ∣ m * (a + t * b)
    rw [e]
    exact Int.dvd_add ha (Int.dvd_mul_of_dvd_right hb)
  · intro H
    have hM : gz_M k (gz_pl G v) (fun x => g ∣ m * x) :=
      gz_Mm (fun x hx => Int.dvd_trans H (Int.mul_dvd_mul_left m hx)) ((hh.2 h).1 (Int.dvd_refl h))
    have hJ : gz_M k G (gz_J G v g m) := by
      match k, h0, hM with
      | 0, h0, _ =>
        have z := h0 v (Or.inr rfl)
        have z1 := Int.zero_dvd.1 z.1
        have z2 := Int.zero_dvd.1 z.2.1
        have z3 := Int.zero_dvd.1 z.2.2
        refine ⟨(0, 0, 0), gz_Sp0, ?_⟩
        apply gz_ext <;> simp [gz_sm, z1, z2, z3]
      | 1, h0, hM =>
        intro w hw
        have z := h0 w v (Or.inl hw) (Or.inr rfl)
        have z1 := Int.zero_dvd.1 z.1
        have z2 := Int.zero_dvd.1 z.2.1
        have z3 := Int.zero_dvd.1 z.2.2
        simp only [gz_xy, gz_xz, gz_yz] at z1 z2 z3
        obtain ⟨⟨t1, q1⟩, ⟨t2, q2⟩, ⟨t3, q3⟩⟩ := hM v (Or.inr rfl)
        refine ⟨⟨gz_sm t1 w, gz_SpS _ (gz_SpG hw), ?_⟩, ⟨gz_sm t2 w, gz_SpS _ (gz_SpG hw), ?_⟩, ⟨gz_sm t3 w, gz_SpS _ (gz_SpG hw), ?_⟩⟩
        · apply gz_ext <;> simp only [gz_sm] <;> refine gz_c1 ?_ q1 <;> grind
        · apply gz_ext <;> simp only [gz_sm] <;> refine gz_c1 ?_ q2 <;> grind
        · apply gz_ext <;> simp only [gz_sm] <;> refine gz_c1 ?_ q3 <;> grind
      | 2, h0, hM =>
        intro w y hw hy
        have z := Int.zero_dvd.1 (h0 w y v (Or.inl hw) (Or.inl hy) (Or.inr rfl))
        have c1 := gz_k2 z (·.1) (Or.inl rfl)
        have c2 := gz_k2 z (·.2.1) (Or.inr (Or.inl rfl))
        have c3 := gz_k2 z (·.2.2) (Or.inr (Or.inr rfl))
        obtain ⟨⟨t1, q1⟩, ⟨t2, q2⟩, ⟨t3, q3⟩⟩ := hM v y (Or.inr rfl) (Or.inl hy)
        obtain ⟨⟨s1, r1⟩, ⟨s2, r2⟩, ⟨s3, r3⟩⟩ := hM w v (Or.inl hw) (Or.inr rfl)
        refine ⟨⟨gz_ad (gz_sm t1 w) s1 y, gz_SpA _ (gz_SpS _ (gz_SpG hw)) hy, ?_⟩, ⟨gz_ad (gz_sm t2 w) s2 y, gz_SpA _ (gz_SpS _ (gz_SpG hw)) hy, ?_⟩, ⟨gz_ad (gz_sm t3 w) s3 y, gz_SpA _ (gz_SpS _ (gz_SpG hw)) hy, ?_⟩⟩
        · exact gz_ext (gz_c2 c1.1 q1 r1) (gz_c2 c2.1 q1 r1) (gz_c2 c3.1 q1 r1)
        · exact gz_ext (gz_c2 c1.2.1 q2 r2) (gz_c2 c2.2.1 q2 r2) (gz_c2 c3.2.1 q2 r2)
        · exact gz_ext (gz_c2 c1.2.2 q3 r3) (gz_c2 c2.2.2 q3 r3) (gz_c2 c3.2.2 q3 r3)
      | 3, _, hM =>
        intro w y x hw hy hx
        obtain ⟨t1, q1⟩ := hM v y x (Or.inr rfl) (Or.inl hy) (Or.inl hx)
        obtain ⟨t2, q2⟩ := hM w v x (Or.inl hw) (Or.inr rfl) (Or.inl hx)
        obtain ⟨t3, q3⟩ := hM w y v (Or.inl hw) (Or.inl hy) (Or.inr rfl)
        refine ⟨gz_ad (gz_ad (gz_sm t1 w) t2 y) t3 x, gz_SpA _ (gz_SpA _ (gz_SpS _ (gz_SpG hw)) hy) hx, ?_⟩
        exact gz_ext (gz_c3 (gz_k3 w y x v (·.1) (Or.inl rfl)) q1 q2 q3) (gz_c3 (gz_k3 w y x v (·.2.1) (Or.inr (Or.inl rfl))) q1 q2 q3) (gz_c3 (gz_k3 w y x v (·.2.2) (Or.inr (Or.inr rfl))) q1 q2 q3)
      | _ + 4, _, _ => exact trivial
    obtain ⟨u, hu, eu⟩ := gz_DI (gz_JI G v g m) hg hJ
    have u1 := congrArg (fun w : gz_V => w.1) eu
    have u2 := congrArg (fun w : gz_V => w.2.1) eu
    have u3 := congrArg (fun w : gz_V => w.2.2) eu
    simp only [gz_sm, Int.mul_assoc] at u1 u2 u3
    have e : gz_sm m v = u := gz_ext (Int.eq_of_mul_eq_mul_left gn u1) (Int.eq_of_mul_eq_mul_left gn u2) (Int.eq_of_mul_eq_mul_left gn u3)
    rw [e]
    exact hu
/-- e is the least multiple of v that the span has; 0: there is none -/
def gz_Or (G : gz_V → Prop) (v : gz_V) (e : Int) : Prop := 0 ≤ e ∧ ∀ m : Int, gz_Sp G (gz_sm m v) ↔ e ∣ m
theorem gz_Oru {G : gz_V → Prop} {v : gz_V} {e f : Int} (he : gz_Or G v e) (hf : gz_Or G v f) : e = f :=
  Int.dvd_antisymm he.1 hf.1 ((he.2 f).1 ((hf.2 f).2 (Int.dvd_refl f))) ((hf.2 e).1 ((he.2 e).2 (Int.dvd_refl e)))
theorem gz_OrE {G H : gz_V → Prop} {v : gz_V} {e : Int} (h : ∀ u, gz_Sp G u ↔ gz_Sp H u) (he : gz_Or G v e) : gz_Or H v e :=
  ⟨he.1, fun m => (h _).symm.trans (he.2 m)⟩
theorem gz_sm1 (v : gz_V) : gz_sm 1 v = v := gz_ext (by simp [gz_sm]) (by simp [gz_sm]) (by simp [gz_sm])
theorem gz_Or1 {G : gz_V → Prop} {v : gz_V} {e : Int} (he : gz_Or G v e) : gz_Sp G v ↔ e = 1 := by
  have h := he.2 1
  rw [gz_sm1] at h
  exact h.trans ⟨fun h => Int.eq_one_of_dvd_one he.1 h, fun h => by rw [h]; exact Int.dvd_refl 1⟩
theorem gz_OrT {k : Nat} {G : gz_V → Prop} {v : gz_V} {g h : Int} (hg : gz_D k G g) (hh : gz_D k (gz_pl G v) h)
    (h0 : gz_M (k + 1) (gz_pl G v) (fun x => (0 : Int) ∣ x)) (gn : g ≠ 0) : 0 < h ∧ 0 < g.tdiv h ∧ gz_Or G v (g.tdiv h) := by
  have hd : h ∣ g := (hg.2 h).2 (gz_Mg (fun _ hu => Or.inl hu) ((hh.2 h).1 (Int.dvd_refl h)))
  have hg0 := hg.1
  have hh0 := hh.1
  have hn : h ≠ 0 := fun e => gn (by rw [e] at hd; exact Int.zero_dvd.1 hd)
  obtain ⟨e, he⟩ := hd
  have e1 : g.tdiv h = e := by rw [he]; exact Int.mul_tdiv_cancel_left e hn
  have hp : 0 < h := by omega
  have ep : 0 < e := Int.pos_of_mul_pos_right (a := h) (by rw [← he]; omega) hp
  rw [e1]
  refine ⟨hp, ep, by omega, fun m => (gz_T hg hh h0 gn m).trans ?_⟩
  rw [he, Int.mul_comm m h]
  exact Int.mul_dvd_mul_iff_left hn
theorem gz_OrN {k : Nat} {G : gz_V → Prop} {v : gz_V} (hk : gz_M k G (fun x => (0 : Int) ∣ x)) (hn : ¬ gz_M k (gz_pl G v) (fun x => (0 : Int) ∣ x)) : gz_Or G v 0 := by
  refine ⟨Int.le_refl 0, fun m => ⟨fun hv => ?_, fun h => ?_⟩⟩
  · by_cases hm : m = 0
    · rw [hm]; exact Int.dvd_refl 0
    · refine absurd (gz_Mm (fun x hx => ?_) (gz_Mv hk hv)) hn
      have q := Int.zero_dvd.1 hx
      rcases Int.mul_eq_zero.1 q with q | q
      · exact absurd q hm
      · rw [q]; exact Int.dvd_refl 0
  · rw [Int.zero_dvd.1 h]
    have e : gz_sm 0 v = (0, 0, 0) := gz_ext (by simp [gz_sm]) (by simp [gz_sm]) (by simp [gz_sm])
    rw [e]
    exact gz_Sp0
end
section
/-! a triangular basis: its points, its multiples, its bounds -/
def gz_B (a p q b s c : Int) : gz_V → Prop := fun u => u = (a, p, q) ∨ u = (0, b, s) ∨ u = (0, 0, c)
theorem gz_Bs {a p q b s c : Int} {v : gz_V} : gz_Sp (gz_B a p q b s c) v ↔ ∃ i j k : Int, v = (i * a, i * p + j * b, i * q + j * s + k * c) := by
  constructor
  · intro h
    refine h (fun v => ∃ i j k : Int, v = (i * a, i * p + j * b, i * q + j * s + k * c)) ⟨0, 0, 0, by simp⟩ ?_
    intro u g t ⟨i, j, k, e⟩ hg
    subst e
    rcases hg with rfl | rfl | rfl
    · exact ⟨i + t, j, k, by apply gz_ext <;> simp only [gz_ad] <;> grind⟩
    · exact ⟨i, j + t, k, by apply gz_ext <;> simp only [gz_ad] <;> grind⟩
    · exact ⟨i, j, k + t, by apply gz_ext <;> simp only [gz_ad] <;> grind⟩
  · intro ⟨i, j, k, e⟩
    have h := gz_SpA k (gz_SpA j (gz_SpS i (gz_SpG (G := gz_B a p q b s c) (Or.inl rfl))) (Or.inr (Or.inl rfl))) (Or.inr (Or.inr rfl))
    have e2 : gz_ad (gz_ad (gz_sm i (a, p, q)) j (0, b, s)) k (0, 0, c) = v := by
      rw [e]
      apply gz_ext <;> simp only [gz_ad, gz_sm] <;> grind
    rw [e2] at h
    exact h
/-- a row whose step is 0 is 0 -/
def gz_Z (a p q b s : Int) : Prop := (a = 0 → p = 0 ∧ q = 0) ∧ (b = 0 → s = 0)
theorem gz_td0 (x : Int) : x.tdiv 0 = 0 := Int.tdiv_zero x
/-- membership, place by place, as contains() goes -/
theorem gz_in {a p q b s c x y z : Int} (hz : gz_Z a p q b s) : gz_Sp (gz_B a p q b s c) (x, y, z) ↔
    a ∣ x ∧ b ∣ y - x.tdiv a * p ∧ c ∣ z - x.tdiv a * q - (y - x.tdiv a * p).tdiv b * s := by
  rw [gz_Bs]
  constructor
  · intro ⟨i, j, k, e⟩
    obtain ⟨e1, e2, e3⟩ : x = i * a ∧ y = i * p + j * b ∧ z = i * q + j * s + k * c :=
      ⟨congrArg (fun w : gz_V => w.1) e, congrArg (fun w : gz_V => w.2.1) e, congrArg (fun w : gz_V => w.2.2) e⟩
    have hi : x.tdiv a * p = i * p ∧ x.tdiv a * q = i * q := by
      by_cases ha : a = 0
      · rw [(hz.1 ha).1, (hz.1 ha).2]; simp
      · rw [e1, Int.mul_tdiv_cancel i ha]; exact ⟨rfl, rfl⟩
    have ej : y - x.tdiv a * p = j * b := by rw [hi.1, e2]; omega
    have hj : (j * b).tdiv b * s = j * s := by
      by_cases hb : b = 0
      · rw [hz.2 hb]; simp
      · rw [Int.mul_tdiv_cancel j hb]
    rw [ej, hj, hi.2, e1, e3]
    exact ⟨⟨i, Int.mul_comm i a⟩, ⟨j, Int.mul_comm j b⟩, ⟨k, by rw [Int.mul_comm c k]; omega⟩⟩
  · intro ⟨h1, h2, k, h3⟩
    refine ⟨x.tdiv a, (y - x.tdiv a * p).tdiv b, k, ?_⟩
    have e1 := Int.tdiv_mul_cancel h1
    have e2 := Int.tdiv_mul_cancel h2
    refine gz_ext e1.symm ?_ ?_
    · dsimp only
      omega
    · dsimp only
      rw [Int.mul_comm k c]
      omega
theorem gz_sp0 {a p q b s c : Int} : gz_Sp (gz_B a p q b s c) (a, p, q) := gz_SpG (Or.inl rfl)
theorem gz_sp1 {a p q b s c : Int} : gz_Sp (gz_B a p q b s c) (0, b, s) := gz_SpG (Or.inr (Or.inl rfl))
theorem gz_sp2 {a p q b s c : Int} : gz_Sp (gz_B a p q b s c) (0, 0, c) := gz_SpG (Or.inr (Or.inr rfl))
/-- if no row of G has f, no point has; so a point with f other than 0 gives a row with it -/
theorem gz_row {G : gz_V → Prop} (f : gz_V → Int) (hl : ∀ u g t, f (gz_ad u t g) = f u + t * f g) (h0 : f (0, 0, 0) = 0)
    {u : gz_V} (hu : gz_Sp G u) (hn : f u ≠ 0) : ∃ g, G g ∧ f g ≠ 0 := by
  apply Classical.byContradiction
  intro hc
  refine hn (Int.zero_dvd.1 (gz_lin (gz_Idd 0) f hl h0 (fun g hg => ?_) u hu))
  by_cases e : f g = 0
  · show (0 : Int) ∣ f g
    rw [e]
    exact Int.dvd_refl 0
  · exact absurd ⟨g, hg, e⟩ hc
theorem gz_row2 {G : gz_V → Prop} (f : gz_V → gz_V → Int)
    (hl : ∀ u g v t, f (gz_ad u t g) v = f u v + t * f g v) (hr : ∀ u g v t, f v (gz_ad u t g) = f v u + t * f v g)
    (h0 : ∀ v, f (0, 0, 0) v = 0) (h1 : ∀ v, f v (0, 0, 0) = 0)
    {u v : gz_V} (hu : gz_Sp G u) (hv : gz_Sp G v) (hn : f u v ≠ 0) : ∃ g k, G g ∧ G k ∧ f g k ≠ 0 := by
  obtain ⟨g, hg, h⟩ := gz_row (fun x => f x v) (fun x w t => hl x w v t) (h0 v) hu hn
  obtain ⟨k, hk, h⟩ := gz_row (fun x => f g x) (fun x w t => hr x w g t) (h1 g) hv h
  exact ⟨g, k, hg, hk, h⟩
theorem gz_row3 {G : gz_V → Prop} {u v w : gz_V} (hu : gz_Sp G u) (hv : gz_Sp G v) (hw : gz_Sp G w) (hn : gz_dt u v w ≠ 0) :
    ∃ g k l, G g ∧ G k ∧ G l ∧ gz_dt g k l ≠ 0 := by
  have z1 : ∀ v w, gz_dt (0, 0, 0) v w = 0 := fun v w => by simp [gz_dt]
  have z2 : ∀ v w, gz_dt v (0, 0, 0) w = 0 := fun v w => by simp [gz_dt, gz_yz, gz_xz, gz_xy]
  have z3 : ∀ v w, gz_dt v w (0, 0, 0) = 0 := fun v w => by simp [gz_dt, gz_yz, gz_xz, gz_xy]
  obtain ⟨g, hg, h⟩ := gz_row (fun x => gz_dt x v w) (fun x y t => gz_dtl x y v w t) (z1 v w) hu hn
  obtain ⟨k, hk, h⟩ := gz_row (fun x => gz_dt g x w) (fun x y t => gz_dtm x y g w t) (z2 g w) hv h
  obtain ⟨l, hl, h⟩ := gz_row (fun x => gz_dt g k x) (fun x y t => gz_dtr x y g k t) (z3 g k) hw h
  exact ⟨g, k, l, hg, hk, hl, h⟩
theorem gz_dle {d n : Int} {N : Nat} (h : d ∣ n) (h0 : n ≠ 0) (hb : n.natAbs ≤ N) : d.natAbs ≤ N :=
  Nat.le_trans (Nat.le_of_dvd (by omega) (Int.natAbs_dvd_natAbs.2 h)) hb
/-- a form of basis points that divides every value at the rows is not above the rows' bound -/
theorem gz_L1 {G : gz_V → Prop} {N : Nat} (f : gz_V → Int) (hl : ∀ u g t, f (gz_ad u t g) = f u + t * f g) (h0 : f (0, 0, 0) = 0)
    (hb : ∀ g, G g → (f g).natAbs ≤ N) {u : gz_V} (hu : gz_Sp G u) (hd : ∀ g, G g → f u ∣ f g) : (f u).natAbs ≤ N := by
  by_cases hn : f u = 0
  · rw [hn]; exact Nat.zero_le N
  · obtain ⟨g, hg, h⟩ := gz_row f hl h0 hu hn
    exact gz_dle (hd g hg) h (hb g hg)
theorem gz_L2 {G : gz_V → Prop} {N : Nat} (f : gz_V → gz_V → Int)
    (hl : ∀ u g v t, f (gz_ad u t g) v = f u v + t * f g v) (hr : ∀ u g v t, f v (gz_ad u t g) = f v u + t * f v g)
    (h0 : ∀ v, f (0, 0, 0) v = 0) (h1 : ∀ v, f v (0, 0, 0) = 0)
    (hb : ∀ g k, G g → G k → (f g k).natAbs ≤ N) {u v : gz_V} (hu : gz_Sp G u) (hv : gz_Sp G v)
    (hd : ∀ g k, G g → G k → f u v ∣ f g k) : (f u v).natAbs ≤ N := by
  by_cases hn : f u v = 0
  · rw [hn]; exact Nat.zero_le N
  · obtain ⟨g, k, hg, hk, h⟩ := gz_row2 f hl hr h0 h1 hu hv hn
    exact gz_dle (hd g k hg hk) h (hb g k hg hk)
theorem gz_L3 {G : gz_V → Prop} {N : Nat} (hb : ∀ g k l, G g → G k → G l → (gz_dt g k l).natAbs ≤ N) {u v w : gz_V}
    (hu : gz_Sp G u) (hv : gz_Sp G v) (hw : gz_Sp G w) (hd : ∀ g k l, G g → G k → G l → gz_dt u v w ∣ gz_dt g k l) : (gz_dt u v w).natAbs ≤ N := by
  by_cases hn : gz_dt u v w = 0
  · rw [hn]; exact Nat.zero_le N
  · obtain ⟨g, k, l, hg, hk, hl, h⟩ := gz_row3 hu hv hw hn
    exact gz_dle (hd g k l hg hk hl) h (hb g k l hg hk hl)
theorem gz_xy0 (v : gz_V) : gz_xy (0, 0, 0) v = 0 ∧ gz_xy v (0, 0, 0) = 0 := by simp [gz_xy]
theorem gz_xz0 (v : gz_V) : gz_xz (0, 0, 0) v = 0 ∧ gz_xz v (0, 0, 0) = 0 := by simp [gz_xz]
theorem gz_yz0 (v : gz_V) : gz_yz (0, 0, 0) v = 0 ∧ gz_yz v (0, 0, 0) = 0 := by simp [gz_yz]
/-! steps that keep the span -/
theorem gz_SpE {G H : gz_V → Prop} (h1 : ∀ g, G g → gz_Sp H g) (h2 : ∀ g, H g → gz_Sp G g) (v : gz_V) : gz_Sp G v ↔ gz_Sp H v :=
  ⟨gz_SpM h1, gz_SpM h2⟩
theorem gz_SpV {G : gz_V → Prop} {u v w : gz_V} (t : Int) (hu : gz_Sp G u) (hv : gz_Sp G v) (h1 : w.1 = u.1 + t * v.1) (h2 : w.2.1 = u.2.1 + t * v.2.1)
    (h3 : w.2.2 = u.2.2 + t * v.2.2) : gz_Sp G w := by
  have e : w = gz_ad u t v := gz_ext h1 h2 h3
  rw [e]
  exact gz_SpAd t hu hv
theorem gz_plE {G H : gz_V → Prop} (h : ∀ v, gz_Sp G v ↔ gz_Sp H v) (w : gz_V) (v : gz_V) : gz_Sp (gz_pl G w) v ↔ gz_Sp (gz_pl H w) v := by
  apply gz_SpE
  · intro g hg
    rcases hg with hg | rfl
    · exact gz_SpM (fun u hu => gz_SpG (Or.inl hu)) ((h g).1 (gz_SpG hg))
    · exact gz_SpG (Or.inr rfl)
  · intro g hg
    rcases hg with hg | rfl
    · exact gz_SpM (fun u hu => gz_SpG (Or.inl hu)) ((h g).2 (gz_SpG hg))
    · exact gz_SpG (Or.inr rfl)
theorem gz_pl0 {G : gz_V → Prop} (v : gz_V) : gz_Sp (gz_pl G (0, 0, 0)) v ↔ gz_Sp G v := by
  apply gz_SpE
  · intro g hg
    rcases hg with hg | rfl
    · exact gz_SpG hg
    · exact gz_Sp0
  · intro g hg
    exact gz_SpG (Or.inl hg)
theorem gz_st0 {a p q b s c x y z : Int} (t : Int) (v : gz_V) :
    gz_Sp (gz_pl (gz_B a p q b s c) (x, y, z)) v ↔ gz_Sp (gz_pl (gz_B x y z b s c) (a - t * x, p - t * y, q - t * z)) v := by
  apply gz_SpE
  · intro g hg
    rcases hg with (rfl | rfl | rfl) | rfl
    · exact gz_SpV t (gz_SpG (Or.inr rfl)) (gz_SpG (Or.inl (Or.inl rfl))) (by dsimp only; grind) (by dsimp only; grind) (by dsimp only; grind)
    · exact gz_SpG (Or.inl (Or.inr (Or.inl rfl)))
    · exact gz_SpG (Or.inl (Or.inr (Or.inr rfl)))
    · exact gz_SpG (Or.inl (Or.inl rfl))
  · intro g hg
    rcases hg with (rfl | rfl | rfl) | rfl
    · exact gz_SpG (Or.inr rfl)
    · exact gz_SpG (Or.inl (Or.inr (Or.inl rfl)))
    · exact gz_SpG (Or.inl (Or.inr (Or.inr rfl)))
    · exact gz_SpV (-t) (gz_SpG (Or.inl (Or.inl rfl))) (gz_SpG (Or.inr rfl)) (by dsimp only; grind) (by dsimp only; grind) (by dsimp only; grind)
theorem gz_st1 {a p q b s c y z : Int} (t : Int) (v : gz_V) :
    gz_Sp (gz_pl (gz_B a p q b s c) (0, y, z)) v ↔ gz_Sp (gz_pl (gz_B a p q y z c) (0, b - t * y, s - t * z)) v := by
  apply gz_SpE
  · intro g hg
    rcases hg with (rfl | rfl | rfl) | rfl
    · exact gz_SpG (Or.inl (Or.inl rfl))
    · exact gz_SpV t (gz_SpG (Or.inr rfl)) (gz_SpG (Or.inl (Or.inr (Or.inl rfl)))) (by dsimp only; grind) (by dsimp only; grind) (by dsimp only; grind)
    · exact gz_SpG (Or.inl (Or.inr (Or.inr rfl)))
    · exact gz_SpG (Or.inl (Or.inr (Or.inl rfl)))
  · intro g hg
    rcases hg with (rfl | rfl | rfl) | rfl
    · exact gz_SpG (Or.inl (Or.inl rfl))
    · exact gz_SpG (Or.inr rfl)
    · exact gz_SpG (Or.inl (Or.inr (Or.inr rfl)))
    · exact gz_SpV (-t) (gz_SpG (Or.inl (Or.inr (Or.inl rfl)))) (gz_SpG (Or.inr rfl)) (by dsimp only; grind) (by dsimp only; grind) (by dsimp only; grind)
theorem gz_st2 {a p q b s c z : Int} (t : Int) (v : gz_V) :
    gz_Sp (gz_pl (gz_B a p q b s c) (0, 0, z)) v ↔ gz_Sp (gz_pl (gz_B a p q b s z) (0, 0, c - t * z)) v := by
  apply gz_SpE
  · intro g hg
    rcases hg with (rfl | rfl | rfl) | rfl
    · exact gz_SpG (Or.inl (Or.inl rfl))
    · exact gz_SpG (Or.inl (Or.inr (Or.inl rfl)))
    · exact gz_SpV t (gz_SpG (Or.inr rfl)) (gz_SpG (Or.inl (Or.inr (Or.inr rfl)))) (by dsimp only; grind) (by dsimp only; grind) (by dsimp only; grind)
    · exact gz_SpG (Or.inl (Or.inr (Or.inr rfl)))
  · intro g hg
    rcases hg with (rfl | rfl | rfl) | rfl
    · exact gz_SpG (Or.inl (Or.inl rfl))
    · exact gz_SpG (Or.inl (Or.inr (Or.inl rfl)))
    · exact gz_SpG (Or.inr rfl)
    · exact gz_SpV (-t) (gz_SpG (Or.inl (Or.inr (Or.inr rfl)))) (gz_SpG (Or.inr rfl)) (by dsimp only; grind) (by dsimp only; grind) (by dsimp only; grind)
/-- one basis row changed to e times itself plus t times another (e = 1 or -1) -/
theorem gz_sg0 {a p q b s c : Int} (v : gz_V) : gz_Sp (gz_B a p q b s c) v ↔ gz_Sp (gz_B (-a) (-p) (-q) b s c) v := by
  apply gz_SpE
  · intro g hg
    rcases hg with rfl | rfl | rfl
    · exact gz_SpV (-1) gz_Sp0 (gz_SpG (Or.inl rfl)) (by dsimp only; grind) (by dsimp only; grind) (by dsimp only; grind)
    · exact gz_SpG (Or.inr (Or.inl rfl))
    · exact gz_SpG (Or.inr (Or.inr rfl))
  · intro g hg
    rcases hg with rfl | rfl | rfl
    · exact gz_SpV (-1) gz_Sp0 (gz_SpG (Or.inl rfl)) (by dsimp only; grind) (by dsimp only; grind) (by dsimp only; grind)
    · exact gz_SpG (Or.inr (Or.inl rfl))
    · exact gz_SpG (Or.inr (Or.inr rfl))
theorem gz_sg1 {a p q b s c : Int} (v : gz_V) : gz_Sp (gz_B a p q b s c) v ↔ gz_Sp (gz_B a p q (-b) (-s) c) v := by
  apply gz_SpE
  · intro g hg
    rcases hg with rfl | rfl | rfl
    · exact gz_SpG (Or.inl rfl)
    · exact gz_SpV (-1) gz_Sp0 (gz_SpG (Or.inr (Or.inl rfl))) (by dsimp only; grind) (by dsimp only; grind) (by dsimp only; grind)
    · exact gz_SpG (Or.inr (Or.inr rfl))
  · intro g hg
    rcases hg with rfl | rfl | rfl
    · exact gz_SpG (Or.inl rfl)
    · exact gz_SpV (-1) gz_Sp0 (gz_SpG (Or.inr (Or.inl rfl))) (by dsimp only; grind) (by dsimp only; grind) (by dsimp only; grind)
    · exact gz_SpG (Or.inr (Or.inr rfl))
theorem gz_sg2 {a p q b s c : Int} (v : gz_V) : gz_Sp (gz_B a p q b s c) v ↔ gz_Sp (gz_B a p q b s (-c)) v := by
  apply gz_SpE
  · intro g hg
    rcases hg with rfl | rfl | rfl
    · exact gz_SpG (Or.inl rfl)
    · exact gz_SpG (Or.inr (Or.inl rfl))
    · exact gz_SpV (-1) gz_Sp0 (gz_SpG (Or.inr (Or.inr rfl))) (by dsimp only; grind) (by dsimp only; grind) (by dsimp only; grind)
  · intro g hg
    rcases hg with rfl | rfl | rfl
    · exact gz_SpG (Or.inl rfl)
    · exact gz_SpG (Or.inr (Or.inl rfl))
    · exact gz_SpV (-1) gz_Sp0 (gz_SpG (Or.inr (Or.inr rfl))) (by dsimp only; grind) (by dsimp only; grind) (by dsimp only; grind)
theorem gz_rg0 {a p q b s c : Int} (t : Int) (v : gz_V) : gz_Sp (gz_B a p q b s c) v ↔ gz_Sp (gz_B a (p - t * b) (q - t * s) b s c) v := by
  apply gz_SpE
  · intro g hg
    rcases hg with rfl | rfl | rfl
    · exact gz_SpV t (gz_SpG (Or.inl rfl)) (gz_SpG (Or.inr (Or.inl rfl))) (by dsimp only; grind) (by dsimp only; grind) (by dsimp only; grind)
    · exact gz_SpG (Or.inr (Or.inl rfl))
    · exact gz_SpG (Or.inr (Or.inr rfl))
  · intro g hg
    rcases hg with rfl | rfl | rfl
    · exact gz_SpV (-t) (gz_SpG (Or.inl rfl)) (gz_SpG (Or.inr (Or.inl rfl))) (by dsimp only; grind) (by dsimp only; grind) (by dsimp only; grind)
    · exact gz_SpG (Or.inr (Or.inl rfl))
    · exact gz_SpG (Or.inr (Or.inr rfl))
theorem gz_rg1 {a p q b s c : Int} (t : Int) (v : gz_V) : gz_Sp (gz_B a p q b s c) v ↔ gz_Sp (gz_B a p q b (s - t * c) c) v := by
  apply gz_SpE
  · intro g hg
    rcases hg with rfl | rfl | rfl
    · exact gz_SpG (Or.inl rfl)
    · exact gz_SpV t (gz_SpG (Or.inr (Or.inl rfl))) (gz_SpG (Or.inr (Or.inr rfl))) (by dsimp only; grind) (by dsimp only; grind) (by dsimp only; grind)
    · exact gz_SpG (Or.inr (Or.inr rfl))
  · intro g hg
    rcases hg with rfl | rfl | rfl
    · exact gz_SpG (Or.inl rfl)
    · exact gz_SpV (-t) (gz_SpG (Or.inr (Or.inl rfl))) (gz_SpG (Or.inr (Or.inr rfl))) (by dsimp only; grind) (by dsimp only; grind) (by dsimp only; grind)
    · exact gz_SpG (Or.inr (Or.inr rfl))
theorem gz_rg2 {a p q b s c : Int} (t : Int) (v : gz_V) : gz_Sp (gz_B a p q b s c) v ↔ gz_Sp (gz_B a p (q - t * c) b s c) v := by
  apply gz_SpE
  · intro g hg
    rcases hg with rfl | rfl | rfl
    · exact gz_SpV t (gz_SpG (Or.inl rfl)) (gz_SpG (Or.inr (Or.inr rfl))) (by dsimp only; grind) (by dsimp only; grind) (by dsimp only; grind)
    · exact gz_SpG (Or.inr (Or.inl rfl))
    · exact gz_SpG (Or.inr (Or.inr rfl))
  · intro g hg
    rcases hg with rfl | rfl | rfl
    · exact gz_SpV (-t) (gz_SpG (Or.inl rfl)) (gz_SpG (Or.inr (Or.inr rfl))) (by dsimp only; grind) (by dsimp only; grind) (by dsimp only; grind)
    · exact gz_SpG (Or.inr (Or.inl rfl))
    · exact gz_SpG (Or.inr (Or.inr rfl))
end
section
/-! the basis in its ranges, and how large its numbers are -/
def gz_H (a p q b s c : Int) : Prop :=
  gz_Z a p q b s ∧ 0 ≤ a ∧ 0 ≤ b ∧ 0 ≤ c ∧ (b ≠ 0 → 0 ≤ p ∧ p < b) ∧ (c ≠ 0 → 0 ≤ q ∧ q < c ∧ 0 ≤ s ∧ s < c)
def gz_Sm (G : gz_V → Prop) : Prop := ∀ u, G u → u.1.natAbs ≤ 9 ∧ u.2.1.natAbs ≤ 9 ∧ u.2.2.natAbs ≤ 9
theorem gz_pm {a b : Int} {A B : Nat} (ha : a.natAbs ≤ A) (hb : b.natAbs ≤ B) : (a * b).natAbs ≤ A * B := by
  rw [Int.natAbs_mul]
  exact Nat.mul_le_mul ha hb
theorem gz_m2 {A B : Nat} {a b c d : Int} (ha : a.natAbs ≤ A) (hb : b.natAbs ≤ B) (hc : c.natAbs ≤ A) (hd : d.natAbs ≤ B) : (a * b - c * d).natAbs ≤ 2 * (A * B) := by
  have h1 := gz_pm ha hb
  have h2 := gz_pm hc hd
  generalize a * b = x at *
  generalize c * d = y at *
  omega
theorem gz_sm2 {G : gz_V → Prop} (hG : gz_Sm G) {u v : gz_V} (hu : G u) (hv : G v) :
    (gz_xy u v).natAbs ≤ 162 ∧ (gz_xz u v).natAbs ≤ 162 ∧ (gz_yz u v).natAbs ≤ 162 := by
  obtain ⟨u1, u2, u3⟩ := hG u hu
  obtain ⟨v1, v2, v3⟩ := hG v hv
  exact ⟨gz_m2 u1 v2 u2 v1, gz_m2 u1 v3 u3 v1, gz_m2 u2 v3 u3 v2⟩
theorem gz_d3 {a b c x y z : Int} {A B : Nat} (ha : a.natAbs ≤ A) (hb : b.natAbs ≤ A) (hc : c.natAbs ≤ A) (hx : x.natAbs ≤ B) (hy : y.natAbs ≤ B) (hz : z.natAbs ≤ B) :
    (a * x - b * y + c * z).natAbs ≤ 3 * (A * B) := by
  have h1 := gz_pm ha hx
  have h2 := gz_pm hb hy
  have h3 := gz_pm hc hz
  generalize a * x = k at *
  generalize b * y = l at *
  generalize c * z = m at *
  omega
theorem gz_sm3 {G : gz_V → Prop} (hG : gz_Sm G) {u v w : gz_V} (hu : G u) (hv : G v) (hw : G w) : (gz_dt u v w).natAbs ≤ 4374 := by
  obtain ⟨u1, u2, u3⟩ := hG u hu
  obtain ⟨h1, h2, h3⟩ := gz_sm2 hG hv hw
  exact gz_d3 u1 u2 u3 h3 h2 h1
theorem gz_le1 {a b : Int} {N : Nat} (h : (a * b).natAbs ≤ N) (ha : a ≠ 0) : b.natAbs ≤ N := by
  rw [Int.natAbs_mul] at h
  have h1 : 1 ≤ a.natAbs := by omega
  have h2 := Nat.mul_le_mul_right b.natAbs h1
  omega
/-- every row of G, by the basis -/
theorem gz_rw {G : gz_V → Prop} {a p q b s c : Int} (hs : ∀ v, gz_Sp (gz_B a p q b s c) v ↔ gz_Sp G v) {g : gz_V} (hg : G g) :
    ∃ i j k : Int, g = (i * a, i * p + j * b, i * q + j * s + k * c) := gz_Bs.1 ((hs g).2 (gz_SpG hg))
theorem gz_bda {G : gz_V → Prop} {a p q b s c : Int} (hG : gz_Sm G) (hs : ∀ v, gz_Sp (gz_B a p q b s c) v ↔ gz_Sp G v) : a.natAbs ≤ 9 := by
  refine gz_L1 (G := G) (fun u => u.1) (fun _ _ _ => rfl) rfl (fun g hg => (hG g hg).1) ((hs _).1 gz_sp0) ?_
  intro g hg
  obtain ⟨i, j, k, rfl⟩ := gz_rw hs hg
  exact ⟨i, Int.mul_comm i a⟩
theorem gz_bdb {G : gz_V → Prop} {a p q b s c : Int} (hG : gz_Sm G) (hs : ∀ v, gz_Sp (gz_B a p q b s c) v ↔ gz_Sp G v) (hz : gz_Z a p q b s) : b.natAbs ≤ 162 := by
  by_cases ha : a = 0
  · obtain ⟨hp, hq⟩ := hz.1 ha
    subst ha hp hq
    have h := gz_L1 (G := G) (N := 9) (fun u => u.2.1) (fun _ _ _ => rfl) rfl (fun g hg => (hG g hg).2.1) ((hs _).1 gz_sp1) (fun g hg => by
      obtain ⟨i, j, k, rfl⟩ := gz_rw hs hg
      exact ⟨j, by dsimp only; grind⟩)
    exact Nat.le_trans h (by decide)
  · have h := gz_L2 (G := G) (N := 162) gz_xy (fun u g v t => gz_xyl u g v t) (fun u g v t => gz_xyr u g v t) (fun v => (gz_xy0 v).1) (fun v => (gz_xy0 v).2)
      (fun g k hg hk => (gz_sm2 hG hg hk).1) ((hs _).1 gz_sp0) ((hs _).1 gz_sp1) (fun g k hg hk => by
        obtain ⟨i, j, k, rfl⟩ := gz_rw hs hg
        obtain ⟨i', j', k', rfl⟩ := gz_rw hs hk
        exact ⟨i * j' - j * i', by simp only [gz_xy]; grind⟩)
    have e : gz_xy (a, p, q) (0, b, s) = a * b := by simp only [gz_xy]; grind
    rw [e] at h
    exact gz_le1 h ha
theorem gz_bdp {G : gz_V → Prop} {a p q b s c : Int} (hG : gz_Sm G) (hs : ∀ v, gz_Sp (gz_B a p q b s c) v ↔ gz_Sp G v) (hb : b = 0) : p.natAbs ≤ 9 := by
  subst hb
  refine gz_L1 (G := G) (fun u => u.2.1) (fun _ _ _ => rfl) rfl (fun g hg => (hG g hg).2.1) ((hs _).1 gz_sp0) ?_
  intro g hg
  obtain ⟨i, j, k, rfl⟩ := gz_rw hs hg
  exact ⟨i, by dsimp only; grind⟩
theorem gz_bdc {G : gz_V → Prop} {a p q b s c : Int} (hG : gz_Sm G) (hs : ∀ v, gz_Sp (gz_B a p q b s c) v ↔ gz_Sp G v) (hz : gz_Z a p q b s) : c.natAbs ≤ 4374 := by
  by_cases ha : a = 0
  · obtain ⟨hp, hq⟩ := hz.1 ha
    subst ha hp hq
    by_cases hb : b = 0
    · have hs0 := hz.2 hb
      subst hb hs0
      have h := gz_L1 (G := G) (N := 9) (fun u => u.2.2) (fun _ _ _ => rfl) rfl (fun g hg => (hG g hg).2.2) ((hs _).1 gz_sp2) (fun g hg => by
        obtain ⟨i, j, k, rfl⟩ := gz_rw hs hg
        exact ⟨k, by dsimp only; grind⟩)
      exact Nat.le_trans h (by decide)
    · have h := gz_L2 (G := G) (N := 162) gz_yz (fun u g v t => gz_yzl u g v t) (fun u g v t => gz_yzr u g v t) (fun v => (gz_yz0 v).1) (fun v => (gz_yz0 v).2)
        (fun g k hg hk => (gz_sm2 hG hg hk).2.2) ((hs _).1 gz_sp1) ((hs _).1 gz_sp2) (fun g k hg hk => by
          obtain ⟨i, j, k, rfl⟩ := gz_rw hs hg
          obtain ⟨i', j', k', rfl⟩ := gz_rw hs hk
          exact ⟨j * k' - k * j', by simp only [gz_yz]; grind⟩)
      have e : gz_yz (0, b, s) (0, 0, c) = b * c := by simp only [gz_yz]; grind
      rw [e] at h
      exact Nat.le_trans (gz_le1 h hb) (by decide)
  · by_cases hb : b = 0
    · have hs0 := hz.2 hb
      subst hb hs0
      have h := gz_L2 (G := G) (N := 162) gz_xz (fun u g v t => gz_xzl u g v t) (fun u g v t => gz_xzr u g v t) (fun v => (gz_xz0 v).1) (fun v => (gz_xz0 v).2)
        (fun g k hg hk => (gz_sm2 hG hg hk).2.1) ((hs _).1 gz_sp0) ((hs _).1 gz_sp2) (fun g k hg hk => by
          obtain ⟨i, j, k, rfl⟩ := gz_rw hs hg
          obtain ⟨i', j', k', rfl⟩ := gz_rw hs hk
          exact ⟨i * k' - k * i', by simp only [gz_xz]; grind⟩)
      have e : gz_xz (a, p, q) (0, 0, c) = a * c := by simp only [gz_xz]; grind
      rw [e] at h
      exact Nat.le_trans (gz_le1 h ha) (by decide)
    · have h := gz_L3 (G := G) (N := 4374) (fun g k l hg hk hl => gz_sm3 hG hg hk hl) ((hs _).1 gz_sp0) ((hs _).1 gz_sp1) ((hs _).1 gz_sp2) (fun g k l hg hk hl => by
        obtain ⟨i, j, k, rfl⟩ := gz_rw hs hg
        obtain ⟨i', j', k', rfl⟩ := gz_rw hs hk
        obtain ⟨i2, j2, k2, rfl⟩ := gz_rw hs hl
        exact ⟨i * (j' * k2 - k' * j2) - j * (i' * k2 - k' * i2) + k * (i' * j2 - j' * i2), by simp only [gz_dt, gz_xy, gz_xz, gz_yz]; grind⟩)
      have e : gz_dt (a, p, q) (0, b, s) (0, 0, c) = a * (b * c) := by simp only [gz_dt, gz_xy, gz_xz, gz_yz]; grind
      rw [e] at h
      exact gz_le1 (gz_le1 h ha) hb
theorem gz_bds {G : gz_V → Prop} {a p q b s c : Int} (hG : gz_Sm G) (hs : ∀ v, gz_Sp (gz_B a p q b s c) v ↔ gz_Sp G v) (hz : gz_Z a p q b s) (hc : c = 0) : s.natAbs ≤ 162 := by
  subst hc
  by_cases ha : a = 0
  · obtain ⟨hp, hq⟩ := hz.1 ha
    subst ha hp hq
    have h := gz_L1 (G := G) (N := 9) (fun u => u.2.2) (fun _ _ _ => rfl) rfl (fun g hg => (hG g hg).2.2) ((hs _).1 gz_sp1) (fun g hg => by
      obtain ⟨i, j, k, rfl⟩ := gz_rw hs hg
      exact ⟨j, by dsimp only; grind⟩)
    exact Nat.le_trans h (by decide)
  · have h := gz_L2 (G := G) (N := 162) gz_xz (fun u g v t => gz_xzl u g v t) (fun u g v t => gz_xzr u g v t) (fun v => (gz_xz0 v).1) (fun v => (gz_xz0 v).2)
      (fun g k hg hk => (gz_sm2 hG hg hk).2.1) ((hs _).1 gz_sp0) ((hs _).1 gz_sp1) (fun g k hg hk => by
        obtain ⟨i, j, k, rfl⟩ := gz_rw hs hg
        obtain ⟨i', j', k', rfl⟩ := gz_rw hs hk
        exact ⟨i * j' - j * i', by simp only [gz_xz]; grind⟩)
    have e : gz_xz (a, p, q) (0, b, s) = a * s := by simp only [gz_xz]; grind
    rw [e] at h
    exact gz_le1 h ha
theorem gz_bdq {G : gz_V → Prop} {a p q b s c : Int} (hG : gz_Sm G) (hs : ∀ v, gz_Sp (gz_B a p q b s c) v ↔ gz_Sp G v) (hz : gz_Z a p q b s) (hc : c = 0)
    (hp : p.natAbs ≤ 162) : q.natAbs ≤ 26406 := by
  have h1 := gz_bds hG hs hz hc
  subst hc
  by_cases hb : b = 0
  · have hs0 := hz.2 hb
    subst hb hs0
    have h := gz_L1 (G := G) (N := 9) (fun u => u.2.2) (fun _ _ _ => rfl) rfl (fun g hg => (hG g hg).2.2) ((hs _).1 gz_sp0) (fun g hg => by
      obtain ⟨i, j, k, rfl⟩ := gz_rw hs hg
      exact ⟨i, by dsimp only; grind⟩)
    exact Nat.le_trans h (by decide)
  · have h := gz_L2 (G := G) (N := 162) gz_yz (fun u g v t => gz_yzl u g v t) (fun u g v t => gz_yzr u g v t) (fun v => (gz_yz0 v).1) (fun v => (gz_yz0 v).2)
      (fun g k hg hk => (gz_sm2 hG hg hk).2.2) ((hs _).1 gz_sp0) ((hs _).1 gz_sp1) (fun g k hg hk => by
        obtain ⟨i, j, k, rfl⟩ := gz_rw hs hg
        obtain ⟨i', j', k', rfl⟩ := gz_rw hs hk
        exact ⟨i * j' - j * i', by simp only [gz_yz]; grind⟩)
    have e : gz_yz (a, p, q) (0, b, s) = p * s - q * b := by simp only [gz_yz]
    rw [e] at h
    have h2 := gz_pm hp h1
    have h3 : (b * q).natAbs ≤ 26406 := by
      rw [Int.mul_comm b q]
      generalize p * s = x at *
      generalize q * b = y at *
      omega
    exact gz_le1 h3 hb
theorem gz_bd {G : gz_V → Prop} {a p q b s c : Int} (hG : gz_Sm G) (hs : ∀ v, gz_Sp (gz_B a p q b s c) v ↔ gz_Sp G v) (hH : gz_H a p q b s c) :
    a ≤ 9 ∧ b ≤ 162 ∧ c ≤ 4374 ∧ p.natAbs ≤ 162 ∧ q.natAbs ≤ 26406 ∧ s.natAbs ≤ 4374 := by
  obtain ⟨hz, h1, h2, h3, h4, h5⟩ := hH
  have ba := gz_bda hG hs
  have bb := gz_bdb hG hs hz
  have bc := gz_bdc hG hs hz
  have bp : p.natAbs ≤ 162 := by
    by_cases hb : b = 0
    · have := gz_bdp hG hs hb
      omega
    · have := h4 hb
      omega
  have bs : s.natAbs ≤ 4374 := by
    by_cases hc : c = 0
    · have := gz_bds hG hs hz hc
      omega
    · have := h5 hc
      omega
  have bq : q.natAbs ≤ 26406 := by
    by_cases hc : c = 0
    · exact gz_bdq hG hs hz hc bp
    · have := h5 hc
      omega
  omega
end
section
/-! the least multiple, place by place; projections; corners; the rank -/
theorem gz_adsm (u g : gz_V) (t i : Int) : gz_sm t (gz_ad u i g) = gz_ad (gz_sm t u) (t * i) g := by
  apply gz_ext <;> simp only [gz_ad, gz_sm] <;> grind
theorem gz_SpP {H : gz_V → Prop} {g w : gz_V} : gz_Sp (gz_pl H g) w ↔ ∃ i : Int, gz_Sp H (gz_ad w (-i) g) := by
  constructor
  · intro h
    refine h (fun w => ∃ i : Int, gz_Sp H (gz_ad w (-i) g)) ⟨0, ?_⟩ ?_
    · have e : gz_ad (0, 0, 0) (-0) g = (0, 0, 0) := gz_ext (by simp [gz_ad]) (by simp [gz_ad]) (by simp [gz_ad])
      rw [e]
      exact gz_Sp0
    · intro u k t ⟨i, hi⟩ hk
      rcases hk with hk | rfl
      · refine ⟨i, ?_⟩
        have e : gz_ad (gz_ad u t k) (-i) g = gz_ad (gz_ad u (-i) g) t k := by apply gz_ext <;> simp only [gz_ad] <;> grind
        rw [e]
        exact gz_SpA t hi hk
      · refine ⟨i + t, ?_⟩
        have e : gz_ad (gz_ad u t k) (-(i + t)) k = gz_ad u (-i) k := by apply gz_ext <;> simp only [gz_ad] <;> grind
        rw [e]
        exact hi
  · intro ⟨i, hi⟩
    refine gz_SpV i (gz_SpM (fun u hu => gz_SpG (Or.inl hu)) hi) (gz_SpG (Or.inr rfl)) ?_ ?_ ?_ <;> simp only [gz_ad] <;> grind
theorem gz_lf {d x f : Int} (hf : 0 < f) (h1 : d ∣ f * x) (h2 : ∀ e : Int, 0 < e → e < f → ¬ d ∣ e * x) (t : Int) : d ∣ t * x ↔ f ∣ t := by
  constructor
  · intro h
    have r0 := Int.emod_nonneg t (b := f) (by omega)
    have r1 := Int.emod_lt_of_pos t hf
    have e : t % f * x = t * x + -(t / f) * (f * x) := by
      rw [Int.emod_def]
      grind
    have h3 : d ∣ t % f * x := by
      rw [e]
      exact Int.dvd_add h (Int.dvd_mul_of_dvd_right h1)
    by_cases hz : t % f = 0
    · exact Int.dvd_of_emod_eq_zero hz
    · exact absurd h3 (h2 _ (by omega) r1)
  · intro ⟨k, hk⟩
    obtain ⟨l, hl⟩ := h1
    refine ⟨k * l, ?_⟩
    subst hk
    grind
/-- m v0 times anything is of G just as the same multiple of v is of H -/
def gz_Om (G : gz_V → Prop) (v0 : gz_V) (m : Int) (H : gz_V → Prop) (v : gz_V) : Prop :=
  ∀ t : Int, gz_Sp G (gz_sm t v0) ↔ ∃ k : Int, t = k * m ∧ gz_Sp H (gz_sm k v)
theorem gz_Om0 (G : gz_V → Prop) (v : gz_V) : gz_Om G v 1 G v := fun t =>
  ⟨fun h => ⟨t, by omega, h⟩, fun ⟨k, e, h⟩ => by
    have e2 : k = t := by omega
    rw [← e2]; exact h⟩
/-- the point has 0 at this place -/
theorem gz_Omz {G H : gz_V → Prop} {v0 v g : gz_V} {m : Int} (f : gz_V → Int) (hf : ∀ u w t, f (gz_ad u t w) = f u + t * f w) (hm : ∀ t u, f (gz_sm t u) = t * f u)
    (hH : ∀ u, gz_Sp H u → f u = 0) (hg : f g = 0 → g = (0, 0, 0)) (h : gz_Om G v0 m (gz_pl H g) v) (hv : f v = 0) : gz_Om G v0 m H v := by
  intro t
  refine (h t).trans ⟨fun ⟨k, e, hk⟩ => ⟨k, e, ?_⟩, fun ⟨k, e, hk⟩ => ⟨k, e, gz_SpM (fun u hu => gz_SpG (Or.inl hu)) hk⟩⟩
  obtain ⟨i, hi⟩ := gz_SpP.1 hk
  have h1 := hH _ hi
  rw [hf, hm, hv] at h1
  have h2 : i * f g = 0 := by
    rw [Int.mul_zero, Int.neg_mul] at h1
    omega
  have h3 : gz_ad (gz_sm k v) (-i) g = gz_sm k v := by
    rcases Int.mul_eq_zero.1 h2 with hi0 | hg0
    · rw [hi0]
      apply gz_ext <;> simp [gz_ad]
    · rw [hg hg0]
      apply gz_ext <;> simp [gz_ad]
  rw [h3] at hi
  exact hi
/-- no multiple -/
theorem gz_Omn {G H : gz_V → Prop} {v0 v g : gz_V} {m : Int} (f : gz_V → Int) (hf : ∀ u w t, f (gz_ad u t w) = f u + t * f w) (hm : ∀ t u, f (gz_sm t u) = t * f u)
    (hH : ∀ u, gz_Sp H u → f u = 0) (hg : f g = 0) (h : gz_Om G v0 m (gz_pl H g) v) (hv : f v ≠ 0) : gz_Or G v0 0 := by
  refine ⟨Int.le_refl 0, fun t => ⟨fun ht => ?_, fun ht => ?_⟩⟩
  · obtain ⟨k, e, hk⟩ := (h t).1 ht
    obtain ⟨i, hi⟩ := gz_SpP.1 hk
    have h1 := hH _ hi
    rw [hf, hm, hg, Int.mul_zero, Int.add_zero] at h1
    rcases Int.mul_eq_zero.1 h1 with h2 | h2
    · rw [e, h2, Int.zero_mul]
      exact Int.dvd_refl 0
    · exact absurd h2 hv
  · rw [Int.zero_dvd.1 ht]
    have e : gz_sm 0 v0 = (0, 0, 0) := gz_ext (by simp [gz_sm]) (by simp [gz_sm]) (by simp [gz_sm])
    rw [e]
    exact gz_Sp0
/-- the factor x, then k times the basis row is taken away -/
theorem gz_Oms {G H : gz_V → Prop} {v0 v g : gz_V} {m x k : Int} (f : gz_V → Int) (hf : ∀ u w t, f (gz_ad u t w) = f u + t * f w) (hm : ∀ t u, f (gz_sm t u) = t * f u)
    (hH : ∀ u, gz_Sp H u → f u = 0) (hg : f g ≠ 0) (h : gz_Om G v0 m (gz_pl H g) v)
    (hx : 0 < x) (h1 : x * f v = k * f g) (h2 : ∀ e : Int, 0 < e → e < x → ¬ f g ∣ e * f v) : gz_Om G v0 (m * x) H (gz_ad (gz_sm x v) (-k) g) := by
  have hd : f g ∣ x * f v := ⟨k, by rw [h1, Int.mul_comm]⟩
  intro t
  refine (h t).trans ⟨fun ⟨l, e, hl⟩ => ?_, fun ⟨l, e, hl⟩ => ?_⟩
  · obtain ⟨i, hi⟩ := gz_SpP.1 hl
    have h3 := hH _ hi
    rw [hf, hm] at h3
    have h4 : f g ∣ l * f v := ⟨i, by rw [Int.mul_comm (f g) i]; rw [Int.neg_mul] at h3; omega⟩
    obtain ⟨y, hy⟩ := (gz_lf hx hd h2 l).1 h4
    refine ⟨y, by rw [e, hy]; grind, ?_⟩
    have h5 : i * f g = (y * k) * f g := by
      have h6 : l * f v = y * (x * f v) := by rw [hy]; grind
      rw [h1] at h6
      rw [Int.neg_mul] at h3
      have h7 : y * (k * f g) = y * k * f g := by grind
      omega
    have h8 : i = y * k := Int.eq_of_mul_eq_mul_right hg h5
    have e2 : gz_sm y (gz_ad (gz_sm x v) (-k) g) = gz_ad (gz_sm l v) (-i) g := by
      rw [h8, hy]
      apply gz_ext <;> simp only [gz_ad, gz_sm] <;> grind
    rw [e2]
    exact hi
  · refine ⟨l * x, by rw [e]; grind, gz_SpP.2 ⟨l * k, ?_⟩⟩
    have e2 : gz_ad (gz_sm (l * x) v) (-(l * k)) g = gz_sm l (gz_ad (gz_sm x v) (-k) g) := by
      apply gz_ext <;> simp only [gz_ad, gz_sm] <;> grind
    rw [e2]
    exact hl
theorem gz_Om3 {G H : gz_V → Prop} {v0 v : gz_V} {m : Int} (h : gz_Om G v0 m H v) (hm : 0 ≤ m) (hv : v = (0, 0, 0)) : gz_Or G v0 m := by
  refine ⟨hm, fun t => (h t).trans ⟨fun ⟨k, e, _⟩ => ⟨k, by rw [e, Int.mul_comm]⟩, fun ⟨k, e⟩ => ⟨k, by rw [e, Int.mul_comm], ?_⟩⟩⟩
  rw [hv]
  have e : gz_sm k (0, 0, 0) = (0, 0, 0) := gz_ext (by simp [gz_sm]) (by simp [gz_sm]) (by simp [gz_sm])
  rw [e]
  exact gz_Sp0
/-- the basis as rows added one by one -/
def gz_N : gz_V → Prop := fun _ => False
theorem gz_BP {a p q b s c : Int} (v : gz_V) : gz_Sp (gz_B a p q b s c) v ↔ gz_Sp (gz_pl (gz_pl (gz_pl gz_N (0, 0, c)) (0, b, s)) (a, p, q)) v := by
  apply gz_SpE
  · intro g hg
    rcases hg with rfl | rfl | rfl
    · exact gz_SpG (Or.inr rfl)
    · exact gz_SpG (Or.inl (Or.inr rfl))
    · exact gz_SpG (Or.inl (Or.inl (Or.inr rfl)))
  · intro g hg
    rcases hg with ((hg | rfl) | rfl) | rfl
    · exact absurd hg id
    · exact gz_SpG (Or.inr (Or.inr rfl))
    · exact gz_SpG (Or.inr (Or.inl rfl))
    · exact gz_SpG (Or.inl rfl)
theorem gz_f1 {b s c : Int} (u : gz_V) (h : gz_Sp (gz_pl (gz_pl gz_N (0, 0, c)) (0, b, s)) u) : u.1 = 0 := by
  refine h (fun u => u.1 = 0) rfl ?_
  intro u g t hu hg
  rcases hg with (hg | rfl) | rfl
  · exact absurd hg id
  · simp only [gz_ad, hu]; omega
  · simp only [gz_ad, hu]; omega
theorem gz_f2 {c : Int} (u : gz_V) (h : gz_Sp (gz_pl gz_N (0, 0, c)) u) : u.2.1 = 0 := by
  refine h (fun u => u.2.1 = 0) rfl ?_
  intro u g t hu hg
  rcases hg with hg | rfl
  · exact absurd hg id
  · simp only [gz_ad, hu]; omega
theorem gz_f3 (u : gz_V) (h : gz_Sp gz_N u) : u.2.2 = 0 := by
  refine h (fun u => u.2.2 = 0) rfl ?_
  intro u g t hu hg
  exact absurd hg id
end
section
/-! projections to the first columns; steps and corners; the rank -/
def gz_pj (n : Nat) (u : gz_V) : gz_V := (u.1, if 2 ≤ n then u.2.1 else 0, if 3 ≤ n then u.2.2 else 0)
def gz_pr (n : Nat) (G : gz_V → Prop) : gz_V → Prop := fun w => ∃ u, G u ∧ w = gz_pj n u
theorem gz_pj0 (n : Nat) : gz_pj n (0, 0, 0) = (0, 0, 0) := by
  apply gz_ext <;> simp [gz_pj]
theorem gz_pjA (n : Nat) (u g : gz_V) (t : Int) : gz_pj n (gz_ad u t g) = gz_ad (gz_pj n u) t (gz_pj n g) := by
  by_cases h2 : 2 ≤ n <;> by_cases h3 : 3 ≤ n <;> apply gz_ext <;> simp [gz_pj, gz_ad, h2, h3]
theorem gz_pj3 (u : gz_V) : gz_pj 3 u = u := by
  apply gz_ext <;> simp [gz_pj]
theorem gz_SpJ {n : Nat} {G : gz_V → Prop} {w : gz_V} : gz_Sp (gz_pr n G) w ↔ ∃ u, gz_Sp G u ∧ w = gz_pj n u := by
  constructor
  · intro h
    refine h (fun w => ∃ u, gz_Sp G u ∧ w = gz_pj n u) ⟨(0, 0, 0), gz_Sp0, (gz_pj0 n).symm⟩ ?_
    intro v g t ⟨u, hu, eu⟩ ⟨k, hk, ek⟩
    exact ⟨gz_ad u t k, gz_SpA t hu hk, by rw [gz_pjA, eu, ek]⟩
  · intro ⟨u, hu, eu⟩
    rw [eu]
    refine hu (fun u => gz_Sp (gz_pr n G) (gz_pj n u)) ?_ ?_
    · show gz_Sp (gz_pr n G) (gz_pj n (0, 0, 0))
      rw [gz_pj0]
      exact gz_Sp0
    · intro v g t hv hg
      show gz_Sp (gz_pr n G) (gz_pj n (gz_ad v t g))
      rw [gz_pjA]
      exact gz_SpA t hv ⟨g, hg, rfl⟩
theorem gz_Sp3 {G : gz_V → Prop} {w : gz_V} : gz_Sp (gz_pr 3 G) w ↔ gz_Sp G w := by
  rw [gz_SpJ]
  exact ⟨fun ⟨u, hu, e⟩ => by rw [e, gz_pj3]; exact hu, fun h => ⟨w, h, (gz_pj3 w).symm⟩⟩
theorem gz_o0 {G : gz_V → Prop} {a p q b s c : Int} (hs : ∀ v, gz_Sp (gz_B a p q b s c) v ↔ gz_Sp G v) (ha : 0 ≤ a) : gz_Or (gz_pr 1 G) (1, 0, 0) a := by
  refine ⟨ha, fun m => ?_⟩
  rw [gz_SpJ]
  constructor
  · intro ⟨u, hu, e⟩
    obtain ⟨i, j, k, rfl⟩ := gz_Bs.1 ((hs u).2 hu)
    have e1 : m * 1 = i * a := congrArg (fun w : gz_V => w.1) e
    exact ⟨i, by rw [Int.mul_comm a i]; omega⟩
  · intro ⟨k, e⟩
    refine ⟨gz_sm k (a, p, q), gz_SpS k ((hs _).1 gz_sp0), ?_⟩
    subst e
    apply gz_ext <;> simp [gz_pj, gz_sm, Int.mul_comm]
theorem gz_o1 {G : gz_V → Prop} {a p q b s c : Int} (hs : ∀ v, gz_Sp (gz_B a p q b s c) v ↔ gz_Sp G v) (hz : gz_Z a p q b s) (hb : 0 ≤ b) : gz_Or (gz_pr 2 G) (0, 1, 0) b := by
  refine ⟨hb, fun m => ?_⟩
  rw [gz_SpJ]
  constructor
  · intro ⟨u, hu, e⟩
    obtain ⟨i, j, k, rfl⟩ := gz_Bs.1 ((hs u).2 hu)
    have e1 : m * 0 = i * a := congrArg (fun w : gz_V => w.1) e
    have e2 : m * 1 = i * p + j * b := congrArg (fun w : gz_V => w.2.1) e
    have e3 : i * p = 0 := by
      rw [Int.mul_zero] at e1
      rcases Int.mul_eq_zero.1 e1.symm with h | h
      · rw [h, Int.zero_mul]
      · rw [(hz.1 h).1, Int.mul_zero]
    exact ⟨j, by rw [Int.mul_comm b j]; omega⟩
  · intro ⟨k, e⟩
    refine ⟨gz_sm k (0, b, s), gz_SpS k ((hs _).1 gz_sp1), ?_⟩
    subst e
    apply gz_ext <;> simp [gz_pj, gz_sm, Int.mul_comm]
theorem gz_ij {a p q b s i j : Int} (hz : gz_Z a p q b s) (h1 : i * a = 0) (h2 : i * p + j * b = 0) : i * q + j * s = 0 := by
  have e3 : i * p = 0 ∧ i * q = 0 := by
    rcases Int.mul_eq_zero.1 h1 with h | h
    · rw [h, Int.zero_mul, Int.zero_mul]; exact ⟨rfl, rfl⟩
    · rw [(hz.1 h).1, (hz.1 h).2, Int.mul_zero]; exact ⟨rfl, rfl⟩
  have e4 : j * b = 0 := by omega
  have e5 : j * s = 0 := by
    rcases Int.mul_eq_zero.1 e4 with h | h
    · rw [h, Int.zero_mul]
    · rw [hz.2 h, Int.mul_zero]
  omega
theorem gz_o2 {G : gz_V → Prop} {a p q b s c : Int} (hs : ∀ v, gz_Sp (gz_B a p q b s c) v ↔ gz_Sp G v) (hz : gz_Z a p q b s) (hc : 0 ≤ c) : gz_Or (gz_pr 3 G) (0, 0, 1) c := by
  refine ⟨hc, fun m => ?_⟩
  rw [gz_SpJ]
  constructor
  · intro ⟨u, hu, e⟩
    obtain ⟨i, j, k, rfl⟩ := gz_Bs.1 ((hs u).2 hu)
    have e1 : m * 0 = i * a := congrArg (fun w : gz_V => w.1) e
    have e2 : m * 0 = i * p + j * b := congrArg (fun w : gz_V => w.2.1) e
    have e3 : m * 1 = i * q + j * s + k * c := congrArg (fun w : gz_V => w.2.2) e
    rw [Int.mul_zero] at e1 e2
    have e4 := gz_ij hz e1.symm e2.symm
    exact ⟨k, by rw [Int.mul_comm c k]; omega⟩
  · intro ⟨k, e⟩
    refine ⟨gz_sm k (0, 0, c), gz_SpS k ((hs _).1 gz_sp2), ?_⟩
    subst e
    apply gz_ext <;> simp [gz_pj, gz_sm, Int.mul_comm]
/-- which y may stand behind the first step -/
theorem gz_cy {G : gz_V → Prop} {a p q b s c y : Int} (hs : ∀ v, gz_Sp (gz_B a p q b s c) v ↔ gz_Sp G v) (ha : a ≠ 0) : gz_Sp (gz_pr 2 G) (a, y, 0) ↔ b ∣ y - p := by
  rw [gz_SpJ]
  constructor
  · intro ⟨u, hu, e⟩
    obtain ⟨i, j, k, rfl⟩ := gz_Bs.1 ((hs u).2 hu)
    have e1 : a = i * a := congrArg (fun w : gz_V => w.1) e
    have e2 : y = i * p + j * b := congrArg (fun w : gz_V => w.2.1) e
    have hi : i = 1 := Int.eq_of_mul_eq_mul_right ha (by omega)
    subst hi
    exact ⟨j, by rw [Int.mul_comm b j]; omega⟩
  · intro ⟨j, e⟩
    refine ⟨gz_ad (a, p, q) j (0, b, s), gz_SpAd j ((hs _).1 gz_sp0) ((hs _).1 gz_sp1), ?_⟩
    apply gz_ext
    · simp [gz_pj, gz_ad]
    · simp only [gz_pj, gz_ad]
      rw [Int.mul_comm j b]
      simp
      omega
    · simp [gz_pj, gz_ad]
theorem gz_cz {G : gz_V → Prop} {a p q b s c z : Int} (hs : ∀ v, gz_Sp (gz_B a p q b s c) v ↔ gz_Sp G v) (hz : gz_Z a p q b s) (ha : a ≠ 0) : gz_Sp G (a, p, z) ↔ c ∣ z - q := by
  constructor
  · intro hu
    obtain ⟨i, j, k, e⟩ := gz_Bs.1 ((hs _).2 hu)
    have e1 : a = i * a := congrArg (fun w : gz_V => w.1) e
    have e2 : p = i * p + j * b := congrArg (fun w : gz_V => w.2.1) e
    have e3 : z = i * q + j * s + k * c := congrArg (fun w : gz_V => w.2.2) e
    have hi : i = 1 := Int.eq_of_mul_eq_mul_right ha (by omega)
    subst hi
    have e4 : j * s = 0 := by
      have e5 : j * b = 0 := by omega
      rcases Int.mul_eq_zero.1 e5 with h | h
      · rw [h, Int.zero_mul]
      · rw [hz.2 h, Int.mul_zero]
    exact ⟨k, by rw [Int.mul_comm c k]; omega⟩
  · intro ⟨k, e⟩
    refine (hs _).1 (gz_SpV k gz_sp0 gz_sp2 ?_ ?_ ?_)
    · dsimp only; omega
    · dsimp only; omega
    · dsimp only
      rw [Int.mul_comm k c]
      omega
theorem gz_cs {G : gz_V → Prop} {a p q b s c z : Int} (hs : ∀ v, gz_Sp (gz_B a p q b s c) v ↔ gz_Sp G v) (hz : gz_Z a p q b s) (hb : b ≠ 0) : gz_Sp G (0, b, z) ↔ c ∣ z - s := by
  constructor
  · intro hu
    obtain ⟨i, j, k, e⟩ := gz_Bs.1 ((hs _).2 hu)
    have e1 : 0 = i * a := congrArg (fun w : gz_V => w.1) e
    have e2 : b = i * p + j * b := congrArg (fun w : gz_V => w.2.1) e
    have e3 : z = i * q + j * s + k * c := congrArg (fun w : gz_V => w.2.2) e
    have e4 : i * p = 0 ∧ i * q = 0 := by
      rcases Int.mul_eq_zero.1 e1.symm with h | h
      · rw [h, Int.zero_mul, Int.zero_mul]; exact ⟨rfl, rfl⟩
      · rw [(hz.1 h).1, (hz.1 h).2, Int.mul_zero]; exact ⟨rfl, rfl⟩
    have hj : j = 1 := Int.eq_of_mul_eq_mul_right hb (by omega)
    subst hj
    exact ⟨k, by rw [Int.mul_comm c k]; omega⟩
  · intro ⟨k, e⟩
    refine (hs _).1 (gz_SpV k gz_sp1 gz_sp2 ?_ ?_ ?_)
    · dsimp only; omega
    · dsimp only; omega
    · dsimp only
      rw [Int.mul_comm k c]
      omega
/-- the rank: the last size with a minor other than 0 -/
def gz_Rk (G : gz_V → Prop) (r : Nat) : Prop :=
  r ≤ 3 ∧ ¬ gz_M r G (fun x => (0 : Int) ∣ x) ∧ ∀ k, r < k → k ≤ 3 → gz_M k G (fun x => (0 : Int) ∣ x)
theorem gz_Rku {G : gz_V → Prop} {r t : Nat} (hr : gz_Rk G r) (ht : gz_Rk G t) : r = t := by
  by_cases h1 : r < t
  · exact absurd (hr.2.2 t h1 ht.1) ht.2.1
  · by_cases h2 : t < r
    · exact absurd (ht.2.2 r h2 hr.1) hr.2.1
    · omega
theorem gz_Mz {k : Nat} {G : gz_V → Prop} (h : gz_M k G (fun x => (0 : Int) ∣ x)) : gz_M (k + 1) G (fun x => (0 : Int) ∣ x) := by
  match k, h with
  | 0, h => exact absurd (Int.zero_dvd.1 h) (by decide)
  | 1, h =>
    intro u v hu hv
    have u1 := Int.zero_dvd.1 (h u hu).1
    have u2 := Int.zero_dvd.1 (h u hu).2.1
    have u3 := Int.zero_dvd.1 (h u hu).2.2
    refine ⟨Int.zero_dvd.2 ?_, Int.zero_dvd.2 ?_, Int.zero_dvd.2 ?_⟩
    · simp only [gz_xy, u1, u2]; omega
    · simp only [gz_xz, u1, u3]; omega
    · simp only [gz_yz, u2, u3]; omega
  | 2, h =>
    intro u v w _ hv hw
    have u1 := Int.zero_dvd.1 (h v w hv hw).1
    have u2 := Int.zero_dvd.1 (h v w hv hw).2.1
    have u3 := Int.zero_dvd.1 (h v w hv hw).2.2
    refine Int.zero_dvd.2 ?_
    simp only [gz_dt, u1, u2, u3]; omega
  | _ + 3, _ => exact trivial
theorem gz_ME {k : Nat} {G H : gz_V → Prop} {d : Int} (h : ∀ v, gz_Sp G v ↔ gz_Sp H v) (hM : gz_M k G (fun x => d ∣ x)) : gz_M k H (fun x => d ∣ x) :=
  gz_Mg (fun _ hu => (h _).2 (gz_SpG hu)) (gz_Ms (gz_Idd d) hM)
theorem gz_RkE {r : Nat} {G H : gz_V → Prop} (h : ∀ v, gz_Sp G v ↔ gz_Sp H v) (hr : gz_Rk G r) : gz_Rk H r :=
  ⟨hr.1, fun hM => hr.2.1 (gz_ME (fun v => (h v).symm) hM), fun k h1 h2 => gz_ME h (hr.2.2 k h1 h2)⟩
theorem gz_ordT {G : gz_V → Prop} {v : gz_V} {r t : Nat} {g h : Int} (hr : gz_Rk G r) (ht : gz_Rk (gz_pl G v) t) (hle : t ≤ r)
    (hg : gz_D r G g) (hh : gz_D r (gz_pl G v) h) : 0 < h ∧ 0 < g.tdiv h ∧ gz_Or G v (g.tdiv h) := by
  refine gz_OrT hg hh ?_ (fun e => hr.2.1 ((gz_D0 hg).1 e))
  by_cases h3 : r + 1 ≤ 3
  · exact ht.2.2 (r + 1) (by omega) h3
  · have h4 := hr.1
    have e : r = 3 := by omega
    subst e
    exact trivial
theorem gz_ordN {G : gz_V → Prop} {v : gz_V} {r t : Nat} (hr : gz_Rk G r) (ht : gz_Rk (gz_pl G v) t) (hlt : r < t) : gz_Or G v 0 :=
  gz_OrN (hr.2.2 t hlt ht.1) ht.2.1
/-- the rank by the basis -/
def gz_nz (a : Int) : Nat := if a = 0 then 0 else 1
theorem gz_RkB {a p q b s c : Int} (hz : gz_Z a p q b s) : gz_Rk (gz_B a p q b s c) (gz_nz a + gz_nz b + gz_nz c) := by
  have g0 : gz_B a p q b s c (a, p, q) := Or.inl rfl
  have g1 : gz_B a p q b s c (0, b, s) := Or.inr (Or.inl rfl)
  have g2 : gz_B a p q b s c (0, 0, c) := Or.inr (Or.inr rfl)
  have hrow : ∀ u, gz_B a p q b s c u → ∃ i j k : Int, u = (i * a, i * p + j * b, i * q + j * s + k * c) := fun u hu => gz_Bs.1 (gz_SpG hu)
  have h3 : a * (b * c) = 0 → gz_M 3 (gz_B a p q b s c) (fun x => (0 : Int) ∣ x) := by
    intro h u v w hu hv hw
    obtain ⟨i, j, k, rfl⟩ := hrow u hu
    obtain ⟨i', j', k', rfl⟩ := hrow v hv
    obtain ⟨i2, j2, k2, rfl⟩ := hrow w hw
    refine Int.zero_dvd.2 ?_
    have e : gz_dt (i * a, i * p + j * b, i * q + j * s + k * c) (i' * a, i' * p + j' * b, i' * q + j' * s + k' * c) (i2 * a, i2 * p + j2 * b, i2 * q + j2 * s + k2 * c) = a * (b * c) * (i * (j' * k2 - k' * j2) - j * (i' * k2 - k' * i2) + k * (i' * j2 - j' * i2)) := by
      simp only [gz_dt, gz_xy, gz_xz, gz_yz]; grind
    rw [e, h, Int.zero_mul]
  have n1 : gz_M 1 (gz_B a p q b s c) (fun x => (0 : Int) ∣ x) → a = 0 ∧ b = 0 ∧ c = 0 := fun h =>
    ⟨Int.zero_dvd.1 (h _ g0).1, Int.zero_dvd.1 (h _ g1).2.1, Int.zero_dvd.1 (h _ g2).2.2⟩
  have n2 : gz_M 2 (gz_B a p q b s c) (fun x => (0 : Int) ∣ x) → a * b = 0 ∧ a * c = 0 ∧ b * c = 0 := by
    intro h
    have h1 := Int.zero_dvd.1 (h _ _ g0 g1).1
    have h2 := Int.zero_dvd.1 (h _ _ g0 g2).2.1
    have h3 := Int.zero_dvd.1 (h _ _ g1 g2).2.2
    simp only [gz_xy, gz_xz, gz_yz] at h1 h2 h3
    refine ⟨?_, ?_, ?_⟩ <;> grind
  have n3 : gz_M 3 (gz_B a p q b s c) (fun x => (0 : Int) ∣ x) → a * (b * c) = 0 := by
    intro h
    have h1 := Int.zero_dvd.1 (h _ _ _ g0 g1 g2)
    simp only [gz_dt, gz_xy, gz_xz, gz_yz] at h1
    grind
  have n0 : ¬ gz_M 0 (gz_B a p q b s c) (fun x => (0 : Int) ∣ x) := fun h => absurd (Int.zero_dvd.1 h) (by decide)
  have ne : ∀ {x y : Int}, x ≠ 0 → y ≠ 0 → x * y ≠ 0 := fun hx hy => Int.mul_ne_zero hx hy
  have up1 : gz_M 1 (gz_B a p q b s c) (fun x => (0 : Int) ∣ x) → ∀ k, 0 < k → k ≤ 3 → gz_M k (gz_B a p q b s c) (fun x => (0 : Int) ∣ x) := by
    intro h k h1 h2
    match k, h1, h2 with
    | 1, _, _ => exact h
    | 2, _, _ => exact gz_Mz h
    | 3, _, _ => exact gz_Mz (gz_Mz h)
  have up2 : gz_M 2 (gz_B a p q b s c) (fun x => (0 : Int) ∣ x) → ∀ k, 1 < k → k ≤ 3 → gz_M k (gz_B a p q b s c) (fun x => (0 : Int) ∣ x) := by
    intro h k h1 h2
    match k, h1, h2 with
    | 2, _, _ => exact h
    | 3, _, _ => exact gz_Mz h
  have up3 : gz_M 3 (gz_B a p q b s c) (fun x => (0 : Int) ∣ x) → ∀ k, 2 < k → k ≤ 3 → gz_M k (gz_B a p q b s c) (fun x => (0 : Int) ∣ x) := by
    intro h k h1 h2
    have e : k = 3 := by omega
    subst e
    exact h
  by_cases ha : a = 0
  · obtain ⟨hp, hq⟩ := hz.1 ha
    by_cases hb : b = 0
    · have hs := hz.2 hb
      by_cases hc : c = 0
      · have e : gz_nz a + gz_nz b + gz_nz c = 0 := by simp [gz_nz, ha, hb, hc]
        rw [e]
        refine ⟨by decide, n0, up1 ?_⟩
        intro u hu
        obtain ⟨i, j, k, rfl⟩ := hrow u hu
        subst ha hb hc hp hq hs
        simp
      · have e : gz_nz a + gz_nz b + gz_nz c = 1 := by simp [gz_nz, ha, hb, hc]
        rw [e]
        refine ⟨by decide, fun h => hc (n1 h).2.2, up2 ?_⟩
        intro u v hu hv
        obtain ⟨i, j, k, rfl⟩ := hrow u hu
        obtain ⟨i', j', k', rfl⟩ := hrow v hv
        subst ha hb hp hq hs
        refine ⟨Int.zero_dvd.2 ?_, Int.zero_dvd.2 ?_, Int.zero_dvd.2 ?_⟩ <;> simp only [gz_xy, gz_xz, gz_yz] <;> grind
    · by_cases hc : c = 0
      · have e : gz_nz a + gz_nz b + gz_nz c = 1 := by simp [gz_nz, ha, hb, hc]
        rw [e]
        refine ⟨by decide, fun h => hb (n1 h).2.1, up2 ?_⟩
        intro u v hu hv
        obtain ⟨i, j, k, rfl⟩ := hrow u hu
        obtain ⟨i', j', k', rfl⟩ := hrow v hv
        subst ha hc hp hq
        refine ⟨Int.zero_dvd.2 ?_, Int.zero_dvd.2 ?_, Int.zero_dvd.2 ?_⟩ <;> simp only [gz_xy, gz_xz, gz_yz] <;> grind
      · have e : gz_nz a + gz_nz b + gz_nz c = 2 := by simp [gz_nz, ha, hb, hc]
        rw [e]
        exact ⟨by decide, fun h => ne hb hc (n2 h).2.2, up3 (h3 (by rw [ha, Int.zero_mul]))⟩
  · by_cases hb : b = 0
    · have hs := hz.2 hb
      by_cases hc : c = 0
      · have e : gz_nz a + gz_nz b + gz_nz c = 1 := by simp [gz_nz, ha, hb, hc]
        rw [e]
        refine ⟨by decide, fun h => ha (n1 h).1, up2 ?_⟩
        intro u v hu hv
        obtain ⟨i, j, k, rfl⟩ := hrow u hu
        obtain ⟨i', j', k', rfl⟩ := hrow v hv
        subst hb hc hs
        refine ⟨Int.zero_dvd.2 ?_, Int.zero_dvd.2 ?_, Int.zero_dvd.2 ?_⟩ <;> simp only [gz_xy, gz_xz, gz_yz] <;> grind
      · have e : gz_nz a + gz_nz b + gz_nz c = 2 := by simp [gz_nz, ha, hb, hc]
        rw [e]
        exact ⟨by decide, fun h => ne ha hc (n2 h).2.1, up3 (h3 (by rw [hb, Int.zero_mul, Int.mul_zero]))⟩
    · by_cases hc : c = 0
      · have e : gz_nz a + gz_nz b + gz_nz c = 2 := by simp [gz_nz, ha, hb, hc]
        rw [e]
        exact ⟨by decide, fun h => ne ha hb (n2 h).1, up3 (h3 (by rw [hc, Int.mul_zero, Int.mul_zero]))⟩
      · have e : gz_nz a + gz_nz b + gz_nz c = 3 := by simp [gz_nz, ha, hb, hc]
        rw [e]
        exact ⟨by decide, fun h => ne ha (ne hb hc) (n3 h), fun k h1 h2 => absurd h1 (by omega)⟩
end
section
/-! sums over ranges; the search for the shortest points -/
def gz_S : Nat → (Nat → Nat) → Nat
  | 0, _ => 0
  | n + 1, f => gz_S n f + f n
noncomputable def gz_ind (P : Prop) : Nat := @ite Nat P (Classical.propDecidable P) 1 0
theorem gz_ind1 {P : Prop} (h : P) : gz_ind P = 1 := if_pos h
theorem gz_ind0 {P : Prop} (h : ¬ P) : gz_ind P = 0 := if_neg h
theorem gz_indE {P Q : Prop} (h : P ↔ Q) : gz_ind P = gz_ind Q := by rw [propext h]
theorem gz_Sc {n : Nat} {f g : Nat → Nat} (h : ∀ i, i < n → f i = g i) : gz_S n f = gz_S n g := by
  induction n with
  | zero => rfl
  | succ n ih =>
    show gz_S n f + f n = gz_S n g + g n
    rw [ih (fun i hi => h i (by omega)), h n (by omega)]
theorem gz_S0 {n : Nat} {f : Nat → Nat} (h : ∀ i, i < n → f i = 0) : gz_S n f = 0 := by
  induction n with
  | zero => rfl
  | succ n ih =>
    show gz_S n f + f n = 0
    rw [ih (fun i hi => h i (by omega)), h n (by omega)]
theorem gz_Sge {n i : Nat} {f : Nat → Nat} (hi : i < n) : f i ≤ gz_S n f := by
  induction n with
  | zero => omega
  | succ n ih =>
    show f i ≤ gz_S n f + f n
    by_cases e : i = n
    · subst e; omega
    · have := ih (by omega)
      omega
theorem gz_Sadd (n : Nat) (f g : Nat → Nat) : gz_S n (fun i => f i + g i) = gz_S n f + gz_S n g := by
  induction n with
  | zero => rfl
  | succ n ih =>
    show gz_S n (fun i => f i + g i) + (f n + g n) = gz_S n f + f n + (gz_S n g + g n)
    rw [ih]
    omega
theorem gz_Sapp (a b : Nat) (f : Nat → Nat) : gz_S (a + b) f = gz_S a f + gz_S b (fun i => f (a + i)) := by
  induction b with
  | zero => rfl
  | succ b ih =>
    show gz_S (a + b) f + f (a + b) = gz_S a f + (gz_S b (fun i => f (a + i)) + f (a + b))
    rw [ih]
    omega
theorem gz_Sswap (n m : Nat) (f : Nat → Nat → Nat) : gz_S n (fun i => gz_S m (fun j => f i j)) = gz_S m (fun j => gz_S n (fun i => f i j)) := by
  induction n with
  | zero => exact (gz_S0 (fun _ _ => rfl)).symm
  | succ n ih =>
    show gz_S n (fun i => gz_S m (fun j => f i j)) + gz_S m (fun j => f n j) = gz_S m (fun j => gz_S n (fun i => f i j) + f n j)
    rw [ih, gz_Sadd]
theorem gz_Sdm {n : Nat} (hn : 0 < n) (m : Nat) (g : Nat → Nat → Nat) : gz_S (n * m) (fun i => g (i % n) (i / n)) = gz_S m (fun j => gz_S n (fun i => g i j)) := by
  induction m with
  | zero => rfl
  | succ m ih =>
    rw [Nat.mul_succ, gz_Sapp, ih]
    show _ = gz_S m (fun j => gz_S n (fun i => g i j)) + gz_S n (fun i => g i m)
    congr 1
    apply gz_Sc
    intro i hi
    rw [Nat.mul_add_mod, Nat.mod_eq_of_lt hi, Nat.mul_add_div hn, Nat.div_eq_of_lt hi, Nat.add_zero]
/-- the box in the two orders -/
theorem gz_box (n : Nat) (f : Nat → Nat → Nat → Nat) :
    gz_S (n * n * n) (fun i => f (i % n) (i / n % n) (i / n / n)) = gz_S n (fun x => gz_S n (fun y => gz_S n (fun z => f x y z))) := by
  by_cases hn : n = 0
  · subst hn; rfl
  · have h0 : 0 < n := by omega
    have h1 := gz_Sdm h0 (n * n) (fun x j => f x (j % n) (j / n))
    rw [Nat.mul_assoc, h1]
    rw [gz_Sdm h0 n (fun y z => gz_S n (fun x => f x y z))]
    rw [gz_Sswap n n (fun z y => gz_S n (fun x => f x y z))]
    have e : (fun y => gz_S n (fun z => gz_S n (fun x => f x y z))) = (fun y => gz_S n (fun x => gz_S n (fun z => f x y z))) := by
      funext y
      exact gz_Sswap n n (fun z x => f x y z)
    rw [e]
    exact gz_Sswap n n (fun y x => gz_S n (fun z => f x y z))
/-- the state of a search: least L, found n, start K, counts C of each square so far -/
def gz_Se (K : Int) (C : Int → Nat) (L : Int) (n : Nat) : Prop :=
  0 < L ∧ L ≤ K ∧ n = C L ∧ (∀ l, 0 < l → l < L → C l = 0) ∧ (L = K ∨ 1 ≤ C L)
theorem gz_Se0 {K : Int} (h : 0 < K) : gz_Se K (fun _ => 0) K 0 := ⟨h, Int.le_refl K, rfl, fun _ _ _ => rfl, Or.inl rfl⟩
theorem gz_SeC {K L : Int} {C D : Int → Nat} {n : Nat} (h : gz_Se K C L n) (e : ∀ l, 0 < l → C l = D l) : gz_Se K D L n := by
  obtain ⟨h1, h2, h3, h4, h5⟩ := h
  refine ⟨h1, h2, by rw [h3, e L h1], fun l a b => by rw [← e l a]; exact h4 l a b, ?_⟩
  rw [← e L h1]
  exact h5
/-- a point that isn't of the grid, or is 0, or is longer -/
theorem gz_SeN {K L q : Int} {C : Int → Nat} {n : Nat} {P : Prop} (h : gz_Se K C L n) (hp : ¬ P ∨ q ≤ 0 ∨ L < q) : gz_Se K (fun l => C l + gz_ind (P ∧ q = l)) L n := by
  obtain ⟨h1, h2, h3, h4, h5⟩ := h
  have hz : ∀ l, 0 < l → l ≤ L → gz_ind (P ∧ q = l) = 0 := fun l a b => gz_ind0 (fun ⟨x, y⟩ => by
    rcases hp with hp | hp | hp
    · exact hp x
    · omega
    · omega)
  refine ⟨h1, h2, ?_, fun l a b => ?_, ?_⟩
  · show n = C L + gz_ind (P ∧ q = L)
    rw [hz L h1 (Int.le_refl L), h3, Nat.add_zero]
  · show C l + gz_ind (P ∧ q = l) = 0
    rw [hz l a (Int.le_of_lt b), h4 l a b]
  · show L = K ∨ 1 ≤ C L + gz_ind (P ∧ q = L)
    rw [hz L h1 (Int.le_refl L), Nat.add_zero]
    exact h5
theorem gz_SeE {K L q : Int} {C : Int → Nat} {n : Nat} {P : Prop} (h : gz_Se K C L n) (hp : P) (hq : q = L) : gz_Se K (fun l => C l + gz_ind (P ∧ q = l)) L (n + 1) := by
  obtain ⟨h1, h2, h3, h4, h5⟩ := h
  refine ⟨h1, h2, ?_, fun l a b => ?_, Or.inr ?_⟩
  · show n + 1 = C L + gz_ind (P ∧ q = L)
    rw [gz_ind1 ⟨hp, hq⟩, h3]
  · show C l + gz_ind (P ∧ q = l) = 0
    rw [gz_ind0 (fun ⟨_, y⟩ => by omega), h4 l a b]
  · show 1 ≤ C L + gz_ind (P ∧ q = L)
    rw [gz_ind1 ⟨hp, hq⟩]
    omega
theorem gz_SeL {K L q : Int} {C : Int → Nat} {n : Nat} {P : Prop} (h : gz_Se K C L n) (hp : P) (hq : 0 < q) (hl : q < L) : gz_Se K (fun l => C l + gz_ind (P ∧ q = l)) q 1 := by
  obtain ⟨h1, h2, h3, h4, h5⟩ := h
  refine ⟨hq, by omega, ?_, fun l a b => ?_, Or.inr ?_⟩
  · show 1 = C q + gz_ind (P ∧ q = q)
    rw [gz_ind1 ⟨hp, rfl⟩, h4 q hq hl]
  · show C l + gz_ind (P ∧ q = l) = 0
    rw [gz_ind0 (fun ⟨_, y⟩ => by omega), h4 l a (by omega)]
  · show 1 ≤ C q + gz_ind (P ∧ q = q)
    rw [gz_ind1 ⟨hp, rfl⟩]
    omega
/-- two searches with the same counts end alike -/
theorem gz_SeU {K J L R : Int} {C D : Int → Nat} {n m : Nat} (h : gz_Se K C L n) (g : gz_Se J D R m) (hJ : J ≤ K) (e : ∀ l, 0 < l → l ≤ K → C l = D l)
    (hr : 1 ≤ D J) : L = R ∧ n = m ∧ 1 ≤ n := by
  obtain ⟨h1, h2, h3, h4, h5⟩ := h
  obtain ⟨g1, g2, g3, g4, g5⟩ := g
  have dR : 1 ≤ D R := by
    rcases g5 with g5 | g5
    · rw [g5]; exact hr
    · exact g5
  have eR := e R g1 (by omega)
  have eL := e L h1 (by omega)
  have e1 : ¬ L < R := fun hlt => by
    have x := g4 L h1 hlt
    rcases h5 with h5 | h5
    · omega
    · omega
  have e2 : ¬ R < L := fun hlt => by
    have x := h4 R g1 hlt
    omega
  have e3 : L = R := by omega
  subst e3
  refine ⟨rfl, ?_, ?_⟩ <;> omega
/-- the longer range counts no more, if its two ends count nothing -/
theorem gz_S33 {f g : Nat → Nat} (h0 : f 0 = 0) (h1 : f 32 = 0) (h : ∀ i, i < 31 → f (i + 1) = g i) : gz_S 33 f = gz_S 31 g := by
  have e1 : gz_S 33 f = gz_S 32 f + f 32 := rfl
  have e2 : gz_S 32 f = gz_S 1 f + gz_S 31 (fun i => f (1 + i)) := gz_Sapp 1 31 f
  have e3 : gz_S 1 f = 0 + f 0 := rfl
  have e4 : gz_S 31 (fun i => f (1 + i)) = gz_S 31 g := gz_Sc (fun i hi => by rw [Nat.add_comm]; exact h i hi)
  omega
end
section
/-! sets of rows by number; common divisors gathered one by one -/
def gz_ro (w : Nat → Int) (r : Nat) : gz_V := (w (3 * r), w (3 * r + 1), w (3 * r + 2))
def gz_G (N : Nat) (B : Nat → Prop) (row : Nat → gz_V) : gz_V → Prop := fun u => ∃ r, r < N ∧ B r ∧ u = row r
theorem gz_dng {d x y : Int} (h : d ∣ x) (e : y = -x) : d ∣ y := by
  obtain ⟨k, hk⟩ := h
  exact ⟨-k, by rw [e, hk, Int.mul_neg]⟩
theorem gz_dz {d y : Int} (e : y = 0) : d ∣ y := by rw [e]; exact Int.dvd_zero d
theorem gz_M2o {N : Nat} {B : Nat → Prop} {row : Nat → gz_V} {d : Int} :
    gz_M 2 (gz_G N B row) (fun x => d ∣ x) ↔ ∀ r, r < N → B r → ∀ s, s < r → B s → d ∣ gz_xy (row r) (row s) ∧ d ∣ gz_xz (row r) (row s) ∧ d ∣ gz_yz (row r) (row s) := by
  constructor
  · intro h r hr br s hs bs
    exact h (row r) (row s) ⟨r, hr, br, rfl⟩ ⟨s, by omega, bs, rfl⟩
  · intro h u v ⟨r, hr, br, eu⟩ ⟨s, hs, bs, ev⟩
    subst eu ev
    by_cases h1 : s < r
    · exact h r hr br s h1 bs
    · by_cases h2 : r < s
      · obtain ⟨k1, k2, k3⟩ := h s hs bs r h2 br
        exact ⟨gz_dng k1 (by simp only [gz_xy]; grind), gz_dng k2 (by simp only [gz_xz]; grind), gz_dng k3 (by simp only [gz_yz]; grind)⟩
      · have e : r = s := by omega
        subst e
        exact ⟨gz_dz (gz_vv _).1, gz_dz (gz_vv _).2.1, gz_dz (gz_vv _).2.2⟩
theorem gz_dtA (u v w : gz_V) : gz_dt v u w = -gz_dt u v w ∧ gz_dt u w v = -gz_dt u v w ∧ gz_dt w v u = -gz_dt u v w ∧ gz_dt v w u = gz_dt u v w ∧ gz_dt w u v = gz_dt u v w := by
  refine ⟨?_, ?_, ?_, ?_, ?_⟩ <;> simp only [gz_dt, gz_xy, gz_xz, gz_yz] <;> grind
theorem gz_M3o {N : Nat} {B : Nat → Prop} {row : Nat → gz_V} {d : Int} :
    gz_M 3 (gz_G N B row) (fun x => d ∣ x) ↔ ∀ r, r < N → B r → ∀ s, s < r → B s → ∀ t, t < s → B t → d ∣ gz_dt (row r) (row s) (row t) := by
  constructor
  · intro h r hr br s hs bs t ht bt
    exact h (row r) (row s) (row t) ⟨r, hr, br, rfl⟩ ⟨s, by omega, bs, rfl⟩ ⟨t, by omega, bt, rfl⟩
  · intro h u v w ⟨i, hi, bi, eu⟩ ⟨j, hj, bj, ev⟩ ⟨k, hk, bk, ew⟩
    subst eu ev ew
    show d ∣ gz_dt (row i) (row j) (row k)
    by_cases e1 : i = j
    · subst e1; exact gz_dz (gz_vvw _ _).1
    · by_cases e2 : j = k
      · subst e2; exact gz_dz (gz_vvw _ _).2.2
      · by_cases e3 : i = k
        · subst e3; exact gz_dz (gz_vvw _ _).2.1
        · by_cases h1 : j < i
          · by_cases h2 : k < j
            · exact h i hi bi j h1 bj k h2 bk
            · by_cases h3 : k < i
              · exact gz_dng (h i hi bi k h3 bk j (by omega) bj) (gz_dtA _ _ _).2.1
              · have x := h k hk bk i (by omega) bi j h1 bj
                rw [← (gz_dtA (row k) (row i) (row j)).2.2.2.1] at x
                exact x
          · by_cases h2 : k < i
            · exact gz_dng (h j hj bj i (by omega) bi k h2 bk) (gz_dtA _ _ _).1
            · by_cases h3 : k < j
              · have x := h j hj bj k h3 bk i (by omega) bi
                rw [← (gz_dtA (row j) (row k) (row i)).2.2.2.2] at x
                exact x
              · exact gz_dng (h k hk bk j (by omega) bj i (by omega) bi) (gz_dtA _ _ _).2.2.1
theorem gz_M1o {N : Nat} {B : Nat → Prop} {row : Nat → gz_V} {d : Int} :
    gz_M 1 (gz_G N B row) (fun x => d ∣ x) ↔ ∀ r, r < N → B r → d ∣ (row r).1 ∧ d ∣ (row r).2.1 ∧ d ∣ (row r).2.2 := by
  constructor
  · intro h r hr br
    exact h (row r) ⟨r, hr, br, rfl⟩
  · intro h u ⟨r, hr, br, eu⟩
    subst eu
    exact h r hr br
theorem gz_gd {P Q : Int → Prop} {g m : Int} (hg : ∀ d, d ∣ g ↔ P d) (hm : ∀ d, d ∣ m ↔ Q d) (d : Int) : d ∣ (Int.gcd g m : Int) ↔ P d ∧ Q d := by
  rw [Int.dvd_coe_gcd_iff, hg, hm]
theorem gz_gle {g m : Int} {N : Nat} (hg : g.natAbs ≤ N) (hm : m.natAbs ≤ N) : Int.gcd g m ≤ N := by
  rw [Int.gcd_eq_natAbs_gcd_natAbs]
  by_cases h : g.natAbs = 0
  · rw [h, Nat.gcd_zero_left]; exact hm
  · exact Nat.le_trans (Nat.gcd_le_left _ (by omega)) hg
/-- with one row more, set apart at the end -/
theorem gz_Gpl {N : Nat} {B C : Nat → Prop} {row : Nat → gz_V} (h : ∀ r, r < N + 1 → (C r ↔ (r < N ∧ B r) ∨ r = N)) (u : gz_V) :
    gz_G (N + 1) C row u ↔ gz_pl (gz_G N B row) (row N) u := by
  constructor
  · intro ⟨r, hr, hc, e⟩
    rcases (h r hr).1 hc with ⟨h1, h2⟩ | h1
    · exact Or.inl ⟨r, h1, h2, e⟩
    · subst h1; exact Or.inr e
  · intro hu
    rcases hu with ⟨r, hr, hb, e⟩ | e
    · exact ⟨r, by omega, (h r (by omega)).2 (Or.inl ⟨hr, hb⟩), e⟩
    · exact ⟨N, by omega, (h N (by omega)).2 (Or.inr rfl), e⟩
theorem gz_Dg {k : Nat} {G H : gz_V → Prop} {n : Int} (h : ∀ u, G u ↔ H u) (hD : gz_D k G n) : gz_D k H n := by
  have e : G = H := funext (fun u => propext (h u))
  rw [← e]
  exact hD
theorem gz_Dk0 (G : gz_V → Prop) : gz_D 0 G 1 := ⟨by decide, fun _ => Iff.rfl⟩
/-- D(k) is not above the size of any minor other than 0 -/
theorem gz_Gs {N : Nat} {B : Nat → Prop} {row : Nat → gz_V} (h : ∀ r, r < N → B r → (row r).1.natAbs ≤ 9 ∧ (row r).2.1.natAbs ≤ 9 ∧ (row r).2.2.natAbs ≤ 9) : gz_Sm (gz_G N B row) := by
  intro u ⟨r, hr, hb, e⟩
  subst e
  exact h r hr hb
theorem gz_Gpj {n N : Nat} {B : Nat → Prop} {row : Nat → gz_V} (u : gz_V) : gz_G N B (fun r => gz_pj n (row r)) u ↔ gz_pr n (gz_G N B row) u := by
  constructor
  · intro ⟨r, hr, hb, e⟩
    exact ⟨row r, ⟨r, hr, hb, rfl⟩, e⟩
  · intro ⟨v, ⟨r, hr, hb, e⟩, e2⟩
    subst e
    exact ⟨r, hr, hb, e2⟩
theorem gz_Gb {N M : Nat} {B C : Nat → Prop} {row : Nat → gz_V} (h1 : ∀ r, r < N → B r → r < M ∧ C r) (h2 : ∀ r, r < M → C r → r < N ∧ B r) (u : gz_V) :
    gz_G N B row u ↔ gz_G M C row u :=
  ⟨fun ⟨r, hr, hb, e⟩ => ⟨r, (h1 r hr hb).1, (h1 r hr hb).2, e⟩, fun ⟨r, hr, hb, e⟩ => ⟨r, (h2 r hr hb).1, (h2 r hr hb).2, e⟩⟩
theorem gz_Ge {G H : gz_V → Prop} (h : ∀ u, G u ↔ H u) : G = H := funext (fun u => propext (h u))
end
section
/-! Euclid's steps of the basis rows with the rest: what lasts, place by place -/
def gz_P0 (T : gz_V → Prop) (b s c a p q x y z : Int) : Prop :=
  (∀ v, gz_Sp (gz_pl (gz_B a p q b s c) (x, y, z)) v ↔ T v) ∧ a.natAbs ≤ 9 ∧ x.natAbs ≤ 9 ∧ (a = 0 → p = 0 ∧ q = 0) ∧
  (p.natAbs ≤ 237735 ∧ y.natAbs ≤ 237735 ∧ y.natAbs * a.natAbs + p.natAbs * x.natAbs ≤ 237735) ∧
  (q.natAbs ≤ 237735 ∧ z.natAbs ≤ 237735 ∧ z.natAbs * a.natAbs + q.natAbs * x.natAbs ≤ 237735)
theorem gz_ml {a x N : Nat} (h : x ≤ N) (hx : x ≠ 0) : a % x ≤ N := by
  have := Nat.mod_lt a (Nat.pos_of_ne_zero hx)
  omega
theorem gz_P0s {T : gz_V → Prop} {b s c a p q x y z : Int} (h : gz_P0 T b s c a p q x y z) (hx : x ≠ 0) :
    gz_P0 T b s c x y z (a - a.tdiv x * x) (p - a.tdiv x * y) (q - a.tdiv x * z) := by
  obtain ⟨h1, h2, h3, h4, ⟨h5, h6, h7⟩, h8, h9, h10⟩ := h
  have e1 := gz_e5 hx h7
  have e2 := gz_e5 hx h10
  refine ⟨fun v => (gz_st0 (a.tdiv x) v).symm.trans (h1 v), h3, ?_, fun h => absurd h hx, ⟨h6, e1.1, e1.2⟩, h9, e2.1, e2.2⟩
  rw [gz_e1]
  exact gz_ml h3 (by omega)
def gz_P1 (T : gz_V → Prop) (a p q c b s y z : Int) : Prop :=
  (∀ v, gz_Sp (gz_pl (gz_B a p q b s c) (0, y, z)) v ↔ T v) ∧ b.natAbs ≤ 237735 ∧ y.natAbs ≤ 237735 ∧ (b = 0 → s = 0) ∧
  (s.natAbs ≤ 1078365960 ∧ z.natAbs ≤ 1078365960 ∧ z.natAbs * b.natAbs + s.natAbs * y.natAbs ≤ 1078365960)
theorem gz_P1s {T : gz_V → Prop} {a p q c b s y z : Int} (h : gz_P1 T a p q c b s y z) (hy : y ≠ 0) :
    gz_P1 T a p q c y z (b - b.tdiv y * y) (s - b.tdiv y * z) := by
  obtain ⟨h1, h2, h3, h4, h5, h6, h7⟩ := h
  have e1 := gz_e5 hy h7
  refine ⟨fun v => (gz_st1 (b.tdiv y) v).symm.trans (h1 v), h3, ?_, fun h => absurd h hy, h6, e1.1, e1.2⟩
  rw [gz_e1]
  exact gz_ml h3 (by omega)
def gz_P2 (T : gz_V → Prop) (a p q b s c z : Int) : Prop :=
  (∀ v, gz_Sp (gz_pl (gz_B a p q b s c) (0, 0, z)) v ↔ T v) ∧ c.natAbs ≤ 1078365960 ∧ z.natAbs ≤ 1078365960
theorem gz_P2s {T : gz_V → Prop} {a p q b s c z : Int} (h : gz_P2 T a p q b s c z) (hz : z ≠ 0) :
    gz_P2 T a p q b s z (c - c.tdiv z * z) := by
  obtain ⟨h1, h2, h3⟩ := h
  refine ⟨fun v => (gz_st2 (c.tdiv z) v).symm.trans (h1 v), h3, ?_⟩
  rw [gz_e1]
  exact gz_ml h3 (by omega)
theorem gz_Pi {A P Q X : Nat} (h1 : A ≤ 9) (h2 : P ≤ 26406) (h3 : X ≤ 9) (h4 : Q ≤ 9) : Q * A + P * X ≤ 237735 := by
  have k1 := Nat.mul_le_mul h4 h1
  have k2 := Nat.mul_le_mul h2 h3
  omega
/-- from the basis in its ranges, with a row of small numbers -/
theorem gz_P0i {G : gz_V → Prop} {a p q b s c x y z : Int} (hG : gz_Sm G) (hs : ∀ v, gz_Sp (gz_B a p q b s c) v ↔ gz_Sp G v) (hH : gz_H a p q b s c)
    (hx : x.natAbs ≤ 9) (hy : y.natAbs ≤ 9) (hz : z.natAbs ≤ 9) : gz_P0 (gz_Sp (gz_pl G (x, y, z))) b s c a p q x y z := by
  obtain ⟨b1, b2, b3, b4, b5, b6⟩ := gz_bd hG hs hH
  obtain ⟨h0, h1, h2, h3, h4, h5⟩ := hH
  have ha : a.natAbs ≤ 9 := by omega
  refine ⟨gz_plE hs (x, y, z), ha, hx, h0.1, ⟨by omega, by omega, ?_⟩, by omega, by omega, ?_⟩
  · have k1 := Nat.mul_le_mul hy ha
    have k2 := Nat.mul_le_mul (show p.natAbs ≤ 26406 by omega) hx
    omega
  · have k1 := Nat.mul_le_mul hz ha
    have k2 := Nat.mul_le_mul b5 hx
    omega
theorem gz_P1i {T : gz_V → Prop} {a p q b s c y z : Int} (h : gz_P0 T b s c a p q 0 y z) (hb : b.natAbs ≤ 162) (hs : s.natAbs ≤ 4374) (h0 : b = 0 → s = 0) :
    gz_P1 T a p q c b s y z := by
  obtain ⟨h1, h2, h3, h4, ⟨h5, h6, h7⟩, h8, h9, h10⟩ := h
  refine ⟨h1, by omega, h6, h0, by omega, by omega, ?_⟩
  have k1 := Nat.mul_le_mul h9 hb
  have k2 := Nat.mul_le_mul hs h6
  omega
theorem gz_P2i {T : gz_V → Prop} {a p q b s c z : Int} (h : gz_P1 T a p q c b s 0 z) (hc : c.natAbs ≤ 4374) : gz_P2 T a p q b s c z := by
  obtain ⟨h1, h2, h3, h4, h5, h6, h7⟩ := h
  exact ⟨h1, by omega, h6⟩
/-- after the three places -/
def gz_P3 (T : gz_V → Prop) (a p q b s c : Int) : Prop :=
  (∀ v, gz_Sp (gz_B a p q b s c) v ↔ T v) ∧ gz_Z a p q b s ∧ a.natAbs ≤ 9 ∧ p.natAbs ≤ 237735 ∧ q.natAbs ≤ 237735 ∧ b.natAbs ≤ 237735 ∧
    s.natAbs ≤ 1078365960 ∧ c.natAbs ≤ 1078365960
theorem gz_P3i {T : gz_V → Prop} {a p q b s c b0 s0 c0 c1 y0 z0 z1 : Int} (h0 : gz_P0 T b0 s0 c0 a p q 0 y0 z0) (h1 : gz_P1 T a p q c1 b s 0 z1) (h2 : gz_P2 T a p q b s c 0) :
    gz_P3 T a p q b s c := by
  obtain ⟨_, a2, a3, a4, ⟨a5, _, _⟩, a8, _, _⟩ := h0
  obtain ⟨_, b2, b3, b4, b5, _, _⟩ := h1
  obtain ⟨c1, c2, _⟩ := h2
  exact ⟨fun v => (gz_pl0 v).symm.trans (c1 v), ⟨a4, b4⟩, a2, a5, a8, b2, b5, c2⟩
/-- the times that reduceNumber takes away -/
def gz_tm (n d t : Int) : Prop := 0 ≤ n - t * d ∧ n - t * d < d ∧ (n = 0 → t = 0) ∧ t.natAbs ≤ n.natAbs + 1
theorem gz_tma {n d : Int} (hd : 0 < d) : (n < n.tdiv d * d → gz_tm n d (n.tdiv d - 1)) ∧ (n.tdiv d * d ≤ n → gz_tm n d (n.tdiv d)) := by
  have h1 : (n - n.tdiv d * d).natAbs < d.natAbs := by
    rw [gz_e1]
    exact Nat.mod_lt _ (by omega)
  have h2 : (n.tdiv d).natAbs ≤ n.natAbs := by
    rw [gz_e2]
    exact Nat.div_le_self _ _
  have h3 : n = 0 → n.tdiv d = 0 := fun h => by rw [h]; exact Int.zero_tdiv d
  have h4 : (n.tdiv d - 1) * d = n.tdiv d * d - d := by rw [Int.sub_mul, Int.one_mul]
  constructor
  · intro h
    refine ⟨by omega, by omega, fun h0 => ?_, by omega⟩
    have h5 := h3 h0
    rw [h5, h0, Int.zero_mul] at h
    omega
  · intro h
    exact ⟨by omega, by omega, h3, by omega⟩
theorem gz_sgn {a p q : Int} : (a < 0 → 0 < -a ∧ (-a).natAbs = a.natAbs ∧ (-p).natAbs = p.natAbs ∧ (-q).natAbs = q.natAbs) := by
  intro h
  omega
end
section
/-! the quotients that give a corner where the step is wanting; counts of the box -/
theorem gz_td {n d k : Int} (h : n = k * d) (hd : d ≠ 0) : n.tdiv d = k := by
  rw [h]
  exact Int.mul_tdiv_cancel k hd
theorem gz_qy {G : gz_V → Prop} {a p q b s c : Int} (hs : ∀ v, gz_Sp (gz_B a p q b s c) v ↔ gz_Sp G v) (hb : b = 0) {g : gz_V} (hg : G g) (hn : g.1 ≠ 0) :
    (a * g.2.1).tdiv g.1 = p := by
  obtain ⟨i, j, k, rfl⟩ := gz_rw hs hg
  subst hb
  exact gz_td (by dsimp only; grind) hn
theorem gz_qz {G : gz_V → Prop} {a p q b s c : Int} (hs : ∀ v, gz_Sp (gz_B a p q b s c) v ↔ gz_Sp G v) (hc : c = 0) {g k : gz_V} (hg : G g) (hk : G k) (hn : gz_xy g k ≠ 0) :
    (p * gz_xz g k - a * gz_yz g k).tdiv (gz_xy g k) = q ∧ (b * gz_xz g k - 0 * gz_yz g k).tdiv (gz_xy g k) = s := by
  obtain ⟨i, j, l, rfl⟩ := gz_rw hs hg
  obtain ⟨i', j', l', rfl⟩ := gz_rw hs hk
  subst hc
  refine ⟨gz_td ?_ hn, gz_td ?_ hn⟩ <;> simp only [gz_xy, gz_xz, gz_yz] <;> grind
/-- no two rows with xy other than 0: one of the two steps is wanting -/
theorem gz_ab {G : gz_V → Prop} {a p q b s c : Int} (hs : ∀ v, gz_Sp (gz_B a p q b s c) v ↔ gz_Sp G v) (h : ∀ g k, G g → G k → gz_xy g k = 0) : a * b = 0 := by
  apply Classical.byContradiction
  intro hn
  have e : gz_xy (a, p, q) (0, b, s) = a * b := by simp only [gz_xy]; grind
  obtain ⟨g, k, hg, hk, hne⟩ := gz_row2 (G := G) gz_xy (fun u g v t => gz_xyl u g v t) (fun u g v t => gz_xyr u g v t) (fun v => (gz_xy0 v).1) (fun v => (gz_xy0 v).2)
    ((hs _).1 gz_sp0) ((hs _).1 gz_sp1) (by rw [e]; exact hn)
  exact hne (h g k hg hk)
theorem gz_qz3 {G : gz_V → Prop} {a p q b s c : Int} (hs : ∀ v, gz_Sp (gz_B a p q b s c) v ↔ gz_Sp G v) (hz : gz_Z a p q b s) (hc : c = 0) (hb : b = 0) (ha : a ≠ 0) {g : gz_V} (hg : G g) :
    (g.1 ≠ 0 → (a * g.2.2).tdiv g.1 = q) ∧ (g.1 = 0 → g.2.1 = 0) := by
  obtain ⟨i, j, l, rfl⟩ := gz_rw hs hg
  have h0 := hz.2 hb
  subst hc hb h0
  refine ⟨fun hn => gz_td (by dsimp only; grind) hn, fun h => ?_⟩
  have h1 : i * a = 0 := h
  rcases Int.mul_eq_zero.1 h1 with h2 | h2
  · show i * p + j * 0 = 0
    rw [h2]
    omega
  · exact absurd h2 ha
theorem gz_qz4 {G : gz_V → Prop} {a p q b s c : Int} (hs : ∀ v, gz_Sp (gz_B a p q b s c) v ↔ gz_Sp G v) (hz : gz_Z a p q b s) (hc : c = 0) (ha : a = 0) {g : gz_V} (hg : G g) :
    g.1 = 0 ∧ (g.2.1 ≠ 0 → (b * g.2.2).tdiv g.2.1 = s) := by
  obtain ⟨i, j, l, rfl⟩ := gz_rw hs hg
  obtain ⟨hp, hq⟩ := hz.1 ha
  subst hc ha hp hq
  refine ⟨by dsimp only; grind, fun hn => gz_td (by dsimp only; grind) hn⟩
theorem gz_ex1 {G : gz_V → Prop} {a p q b s c : Int} (hs : ∀ v, gz_Sp (gz_B a p q b s c) v ↔ gz_Sp G v) (ha : a ≠ 0) : ∃ g, G g ∧ g.1 ≠ 0 :=
  gz_row (G := G) (fun u => u.1) (fun _ _ _ => rfl) rfl ((hs _).1 gz_sp0) ha
theorem gz_ex2 {G : gz_V → Prop} {a p q b s c : Int} (hs : ∀ v, gz_Sp (gz_B a p q b s c) v ↔ gz_Sp G v) (hb : b ≠ 0) : ∃ g, G g ∧ g.2.1 ≠ 0 :=
  gz_row (G := G) (fun u => u.2.1) (fun _ _ _ => rfl) rfl ((hs _).1 gz_sp1) hb
theorem gz_uq {b y p : Int} (h : b ∣ y - p) (hy : 0 ≤ y ∧ y < b) (hp : 0 ≤ p ∧ p < b) : y = p := by
  obtain ⟨k, hk⟩ := h
  by_cases h0 : k = 0
  · rw [h0, Int.mul_zero] at hk
    omega
  · have h1 : b.natAbs * 1 ≤ b.natAbs * k.natAbs := Nat.mul_le_mul_left _ (by omega)
    have h2 : (b * k).natAbs = b.natAbs * k.natAbs := Int.natAbs_mul b k
    rw [← hk] at h2
    omega
/-! the box of the search -/
def gz_sq (x y z : Int) : Int := x * x + y * y + z * z
noncomputable def gz_pt (T : gz_V → Prop) (l x y z : Int) : Nat := gz_ind (T (x, y, z) ∧ gz_sq x y z = l)
noncomputable def gz_CX (T : gz_V → Prop) (l : Int) : Nat :=
  gz_S 31 (fun i => gz_S 31 (fun j => gz_S 31 (fun k => gz_pt T l ((i : Int) - 15) ((j : Int) - 15) ((k : Int) - 15))))
noncomputable def gz_CY (T : gz_V → Prop) (l : Int) : Nat :=
  gz_S 1089 (fun i => gz_S 33 (fun k => gz_pt T l (((i / 33 : Nat) : Int) - 16) (((i % 33 : Nat) : Int) - 16) ((k : Int) - 16)))
theorem gz_sq0 (x : Int) : 0 ≤ x * x := by
  rw [← Int.natAbs_mul_self]
  exact Int.natCast_nonneg _
theorem gz_pt0 {T : gz_V → Prop} {l x y z : Int} (hl : l ≤ 243) (h : x.natAbs = 16 ∨ y.natAbs = 16 ∨ z.natAbs = 16) : gz_pt T l x y z = 0 := by
  refine gz_ind0 (fun ⟨_, e⟩ => ?_)
  have h1 := gz_sq0 x
  have h2 := gz_sq0 y
  have h3 := gz_sq0 z
  simp only [gz_sq] at e
  have h4 : ∀ u : Int, u.natAbs = 16 → u * u = 256 := by
    intro u hu
    have h5 : u = 16 ∨ u = -16 := by omega
    rcases h5 with rfl | rfl <;> decide
  rcases h with h | h | h
  · have := h4 x h
    omega
  · have := h4 y h
    omega
  · have := h4 z h
    omega
theorem gz_tot {T : gz_V → Prop} {l : Int} (hl : l ≤ 243) : gz_CX T l = gz_CY T l := by
  have e1 : gz_CY T l = gz_S 33 (fun i => gz_S 33 (fun j => gz_S 33 (fun k => gz_pt T l ((i : Int) - 16) ((j : Int) - 16) ((k : Int) - 16)))) :=
    gz_Sdm (n := 33) (by decide) 33 (fun j i => gz_S 33 (fun k => gz_pt T l ((i : Int) - 16) ((j : Int) - 16) ((k : Int) - 16)))
  rw [e1]
  refine (gz_S33 ?_ ?_ ?_).symm
  · exact gz_S0 (fun j _ => gz_S0 (fun k _ => gz_pt0 hl (Or.inl (by decide))))
  · exact gz_S0 (fun j _ => gz_S0 (fun k _ => gz_pt0 hl (Or.inl (by decide))))
  · intro i hi
    refine gz_S33 ?_ ?_ ?_
    · exact gz_S0 (fun k _ => gz_pt0 hl (Or.inr (Or.inl (by decide))))
    · exact gz_S0 (fun k _ => gz_pt0 hl (Or.inr (Or.inl (by decide))))
    · intro j hj
      refine gz_S33 ?_ ?_ ?_
      · exact gz_pt0 hl (Or.inr (Or.inr (by decide)))
      · exact gz_pt0 hl (Or.inr (Or.inr (by decide)))
      · intro k hk
        have a1 : ((i + 1 : Nat) : Int) - 16 = (i : Int) - 15 := by omega
        have a2 : ((j + 1 : Nat) : Int) - 16 = (j : Int) - 15 := by omega
        have a3 : ((k + 1 : Nat) : Int) - 16 = (k : Int) - 15 := by omega
        show gz_pt T l (((i + 1 : Nat) : Int) - 16) (((j + 1 : Nat) : Int) - 16) (((k + 1 : Nat) : Int) - 16) = gz_pt T l ((i : Int) - 15) ((j : Int) - 15) ((k : Int) - 15)
        rw [a1, a2, a3]
theorem gz_ge1 {T : gz_V → Prop} {l x y z : Int} (hT : T (x, y, z)) (hx : x.natAbs ≤ 15) (hy : y.natAbs ≤ 15) (hz : z.natAbs ≤ 15) (hl : gz_sq x y z = l) : 1 ≤ gz_CX T l := by
  have e : gz_pt T l (((x + 15).toNat : Int) - 15) (((y + 15).toNat : Int) - 15) (((z + 15).toNat : Int) - 15) = 1 := by
    have a1 : ((x + 15).toNat : Int) - 15 = x := by omega
    have a2 : ((y + 15).toNat : Int) - 15 = y := by omega
    have a3 : ((z + 15).toNat : Int) - 15 = z := by omega
    rw [a1, a2, a3]
    exact gz_ind1 ⟨hT, hl⟩
  have i1 : (x + 15).toNat < 31 := by omega
  have i2 : (y + 15).toNat < 31 := by omega
  have i3 : (z + 15).toNat < 31 := by omega
  have k1 := gz_Sge (f := fun i : Nat => gz_S 31 (fun j => gz_S 31 (fun k => gz_pt T l ((i : Int) - 15) ((j : Int) - 15) ((k : Int) - 15)))) i1
  have k2 := gz_Sge (f := fun j : Nat => gz_S 31 (fun k => gz_pt T l (((x + 15).toNat : Int) - 15) ((j : Int) - 15) ((k : Int) - 15))) i2
  have k3 := gz_Sge (f := fun k : Nat => gz_pt T l (((x + 15).toNat : Int) - 15) (((y + 15).toNat : Int) - 15) ((k : Int) - 15)) i3
  rw [e] at k3
  exact Nat.le_trans (Nat.le_trans k3 k2) k1
end
section
/-! Euclid's loop with a limit of 1000: it ends by itself -/
theorem gz_euK {σ : Type} (W : Nat → Nat → σ → Prop) (B R : σ → Nat) (I : σ → Prop)
    (hx : ∀ n i s, i ≤ 1000 → I s → R s = 0 → W (n + 1) i s)
    (hs : ∀ n i s, i < 1000 → I s → R s ≠ 0 → ∃ s', I s' ∧ B s' = R s ∧ R s' = B s % R s ∧ (W n (i + 1) s' → W (n + 1) i s)) :
    ∀ k i s, I s → R s ≤ B s → B s * R s < 2 ^ k → i + k ≤ 1000 → W (k + 1) i s := by
  intro k
  induction k with
  | zero =>
    intro i s hI hle hp hi
    refine hx 0 i s (by omega) hI ?_
    by_cases h : R s = 0
    · exact h
    · have h2 := Nat.mul_le_mul (show 1 ≤ B s by omega) (show 1 ≤ R s by omega)
      omega
  | succ k ih =>
    intro i s hI hle hp hi
    by_cases h : R s = 0
    · exact hx (k + 1) i s (by omega) hI h
    · obtain ⟨s', hI', hB, hR, hW⟩ := hs (k + 1) i s (by omega) hI h
      refine hW (ih (i + 1) s' hI' ?_ ?_ (by omega))
      · rw [hB, hR]
        exact Nat.le_of_lt (Nat.mod_lt _ (by omega))
      · rw [hB, hR]
        have h3 := gz_e3 h hle
        rw [Nat.pow_succ] at hp
        omega
theorem gz_euG {σ : Type} (W : Nat → Nat → σ → Prop) (B R : σ → Nat) (I : σ → Prop)
    (hx : ∀ n i s, i ≤ 1000 → I s → R s = 0 → W (n + 1) i s)
    (hs : ∀ n i s, i < 1000 → I s → R s ≠ 0 → ∃ s', I s' ∧ B s' = R s ∧ R s' = B s % R s ∧ (W n (i + 1) s' → W (n + 1) i s))
    (s : σ) (hI : I s) (hB : B s < 4294967296) (hR : R s < 4294967296) : ∃ n, W n 0 s := by
  have hp : ∀ x y : Nat, x < 4294967296 → y < 4294967296 → x * y < 2 ^ 64 := by
    intro x y h1 h2
    have h3 := Nat.mul_lt_mul_of_lt_of_lt h1 h2
    omega
  by_cases h : R s ≤ B s
  · exact ⟨65, gz_euK W B R I hx hs 64 0 s hI h (hp _ _ hB hR) (by omega)⟩
  · obtain ⟨s', hI', hB', hR', hW⟩ := hs 65 0 s (by omega) hI (by omega)
    refine ⟨66, hW (gz_euK W B R I hx hs 64 1 s' hI' ?_ ?_ (by omega))⟩
    · rw [hB', hR']
      exact Nat.le_of_lt (Nat.mod_lt _ (by omega))
    · rw [hB', hR']
      refine hp _ _ hR ?_
      have := Nat.mod_lt (B s) (show 0 < R s by omega)
      omega
theorem gz_gst (g h : Nat) : Nat.gcd h (g % h) = Nat.gcd g h := by
  rw [Nat.gcd_comm g h, Nat.gcd_rec h g, Nat.gcd_comm]
end
section
/-! X: the basis and the rest; loops over the places -/
theorem gx_3c (c : Nat) : (3 : Int32) * nI c = nI (3 * c) := pk_mul 3 c
theorem gx_ad {a b : Nat} (h : a + b < 2147483648) : (nI a + nI b).toNatClampNeg = a + b := by
  rw [nI_add]
  exact nI_clamp h
theorem gx_vi {a b N : Nat} (h : a + b < N) (hN : N < 2147483648) : vp_in (nI a + nI b) N := by
  rw [nI_add]
  exact vp_in_nI h hN
theorem gx_ad3 {a b : Nat} (h : 3 * a + b < 2147483648) : (3 * nI a + nI b).toNatClampNeg = 3 * a + b := by
  rw [gx_3c]
  exact gx_ad h
theorem gx_vi3 {a b N : Nat} (h : 3 * a + b < N) (hN : N < 2147483648) : vp_in (3 * nI a + nI b) N := by
  rw [gx_3c]
  exact gx_vi h hN
theorem gx_cl {a : Nat} (h : a < 2147483648) : (nI a).toNatClampNeg = a := nI_clamp h
def gx_b (c : Nat) (β ρ : Nat → Int64) : Nat → Int64 := fun j => if 3 * c + c ≤ j ∧ j < 3 * c + 3 then ρ (j - 3 * c) else β j
def gx_r (c : Nat) (t : Int64) (β ρ : Nat → Int64) : Nat → Int64 := fun j => if c ≤ j ∧ j < 3 then β (3 * c + j) - t * ρ j else ρ j
theorem gx_cp {post : SX → Prop} {J : Int32 → (Nat → Int32) → (Nat → Int64) → (Nat → Int64) → Prop} {rc lsq lsp x3 : Int32} {t : Int64} {C : Nat → Int32} {β ρ : Nat → Int64}
    (c : Nat) (hc : c < 3) (h : J (x3 + 1) C (gx_b c β ρ) (gx_r c t β ρ)) :
    ∃ n, wX_clearPlace_44 post J (nI c) (nI (3 * c)) x3 t rc lsq lsp n (nI c) C β ρ := by
  refine pk_loop (σ := (Nat → Int64) × (Nat → Int64)) (fun n i s => wX_clearPlace_44 post J (nI c) (nI (3 * c)) x3 t rc lsq lsp n (nI i) C s.1 s.2)
    (fun i s => c ≤ i ∧ (∀ j, s.1 j = if 3 * c + c ≤ j ∧ j < 3 * c + i then ρ (j - 3 * c) else β j) ∧ (∀ j, s.2 j = if c ≤ j ∧ j < i then β (3 * c + j) - t * ρ j else ρ j))
    3 c (β, ρ) (by omega) ⟨Nat.le_refl c, fun j => (if_neg (by omega)).symm, fun j => (if_neg (by omega)).symm⟩ ?_ ?_
  · intro n s ⟨_, h1, h2⟩
    have e1 : s.1 = gx_b c β ρ := funext h1
    have e2 : s.2 = gx_r c t β ρ := funext h2
    refine br_t (by decide) (nm_e ?_)
    rw [e1, e2]
    exact h
  · intro n i s hi ⟨h0, h1, h2⟩ k
    have e1 : (nI (3 * c) + nI i).toNatClampNeg = 3 * c + i := gx_ad (by omega)
    have e2 : (nI i).toNatClampNeg = i := gx_cl (by omega)
    have v1 : vp_in (nI (3 * c) + nI i) 9 := gx_vi (by omega) (by omega)
    have v2 : vp_in (nI i) 3 := vp_in_nI hi (by omega)
    refine br_f (nI_ge (b := 3) hi (by decide)) ⟨v1, v2, nm_e ⟨v2, v1, nm_e ⟨v2, nm_e (nm_r (nI_1 i) ?_)⟩⟩⟩
    refine k (vp_updL s.1 (nI (3 * c) + nI i).toNatClampNeg (s.2 (nI i).toNatClampNeg), vp_updL s.2 (nI i).toNatClampNeg (s.1 (nI (3 * c) + nI i).toNatClampNeg - t * s.2 (nI i).toNatClampNeg)) ⟨by omega, fun j => ?_, fun j => ?_⟩
    · dsimp only
      rw [e1, e2]
      by_cases hj : j = 3 * c + i
      · subst hj
        rw [pk_uLs, if_pos (by omega), h2, if_neg (by omega)]
        congr 1
        omega
      · rw [pk_uLn hj, h1]
        by_cases hk : 3 * c + c ≤ j ∧ j < 3 * c + i
        · rw [if_pos hk, if_pos (by omega)]
        · rw [if_neg hk, if_neg (by omega)]
    · dsimp only
      rw [e1, e2]
      by_cases hj : j = i
      · subst hj
        rw [pk_uLs, if_pos (by omega), h1, if_neg (by omega), h2, if_neg (by omega)]
      · rw [pk_uLn hj, h2]
        by_cases hk : c ≤ j ∧ j < i
        · rw [if_pos hk, if_pos (by omega)]
        · rw [if_neg hk, if_neg (by omega)]
theorem gx_clr {post : SX → Prop} {rc lsq lsp : Int32} {C : Nat → Int32} (c : Nat) (hc : c < 3) (Inv : (Nat → Int64) → (Nat → Int64) → Int → Int → Prop)
    (hv : ∀ β ρ B R, Inv β ρ B R → β (3 * c + c) = gz_l B ∧ ρ c = gz_l R ∧ B.natAbs < 4294967296 ∧ R.natAbs < 4294967296)
    (hst : ∀ β ρ B R, Inv β ρ B R → R ≠ 0 → Inv (gx_b c β ρ) (gx_r c (gz_l (B.tdiv R)) β ρ) R (B - B.tdiv R * R))
    (h : ∀ β ρ B, Inv β ρ B 0 → post (rc, lsq, lsp, C, β, ρ)) {β ρ : Nat → Int64} {B R : Int} (hI : Inv β ρ B R) :
    wpX_clearPlace post (rc, lsq, lsp, C, β, ρ) (nI c) := by
  refine nm_r (gx_3c c) ?_
  refine gz_euG (σ := (Nat → Int64) × (Nat → Int64) × Int × Int) (fun n i s => wX_clearPlace_6 post (nI c) (nI (3 * c)) rc lsq lsp n (nI i) C s.1 s.2.1)
    (fun s => s.2.2.1.natAbs) (fun s => s.2.2.2.natAbs) (fun s => Inv s.1 s.2.1 s.2.2.1 s.2.2.2) ?_ ?_ (β, ρ, B, R) hI (hv _ _ _ _ hI).2.2.1 (hv _ _ _ _ hI).2.2.2
  · intro n i s hi hs h0
    have hz : s.2.2.2 = 0 := by omega
    have hs2 : Inv s.1 s.2.1 s.2.2.1 0 := by rw [← hz]; exact hs
    have hp := h _ _ _ hs2
    refine pk_le 1000 i (fun _ => hp) (fun _ => ⟨vp_in_nI hc (by omega), br_t ?_ hp⟩)
    rw [gx_cl (a := c) (by omega), (hv _ _ _ _ hs2).2.1]
    rfl
  · intro n i s hi hs h0
    obtain ⟨f1, f2, f3, f4⟩ := hv _ _ _ _ hs
    have hR : s.2.2.2 ≠ 0 := by
      intro e
      rw [e] at h0
      exact h0 rfl
    refine ⟨(gx_b c s.1 s.2.1, gx_r c (gz_l (s.2.2.1.tdiv s.2.2.2)) s.1 s.2.1, s.2.2.2, s.2.2.1 - s.2.2.1.tdiv s.2.2.2 * s.2.2.2), hst _ _ _ _ hs hR, rfl, gz_e1 _ _, fun hW => ?_⟩
    have e1 : (nI (3 * c) + nI c).toNatClampNeg = 3 * c + c := gx_ad (by omega)
    have e2 : (nI c).toNatClampNeg = c := gx_cl (by omega)
    have hne : ¬ s.2.1 (nI c).toNatClampNeg = 0 := by
      rw [e2, f2]
      exact fun e => hR ((gz_lE (b := 0)).1 e)
    have hd : s.1 (nI (3 * c) + nI c).toNatClampNeg / s.2.1 (nI c).toNatClampNeg = gz_l (s.2.2.1.tdiv s.2.2.2) := by
      rw [e1, e2, f1, f2]
      exact gz_lD
    refine br_f (nI_ge (b := 1000) hi (by decide)) ⟨vp_in_nI hc (by omega), br_f hne ⟨gx_vi (by omega) (by omega), vp_in_nI hc (by omega), hne, nm_r hd ?_⟩⟩
    refine gx_cp c hc ?_
    rw [nI_1]
    exact hW
end
section
/-! X: the basis of the rows -/
def gz_bs (β : Nat → Int64) (a p q b s c : Int) : Prop :=
  β 0 = gz_l a ∧ β 1 = gz_l p ∧ β 2 = gz_l q ∧ β 3 = gz_l 0 ∧ β 4 = gz_l b ∧ β 5 = gz_l s ∧ β 6 = gz_l 0 ∧ β 7 = gz_l 0 ∧ β 8 = gz_l c
def gz_rs (ρ : Nat → Int64) (x y z : Int) : Prop := ρ 0 = gz_l x ∧ ρ 1 = gz_l y ∧ ρ 2 = gz_l z
theorem gx_bi {c j : Nat} {β ρ : Nat → Int64} (h : 3 * c + c ≤ j ∧ j < 3 * c + 3) : gx_b c β ρ j = ρ (j - 3 * c) := if_pos h
theorem gx_bo {c j : Nat} {β ρ : Nat → Int64} (h : ¬ (3 * c + c ≤ j ∧ j < 3 * c + 3)) : gx_b c β ρ j = β j := if_neg h
theorem gx_ri {c j : Nat} {t : Int64} {β ρ : Nat → Int64} (h : c ≤ j ∧ j < 3) : gx_r c t β ρ j = β (3 * c + j) - t * ρ j := if_pos h
theorem gx_ro {c j : Nat} {t : Int64} {β ρ : Nat → Int64} (h : ¬ (c ≤ j ∧ j < 3)) : gx_r c t β ρ j = ρ j := if_neg h
theorem gx_s {x y : Int64} {p t z : Int} (hx : x = gz_l p) (hy : y = gz_l z) : x - gz_l t * y = gz_l (p - t * z) := by
  rw [hx, hy, gz_lm, gz_ls]
def gx_I0 (T : gz_V → Prop) (b s c : Int) (β ρ : Nat → Int64) (B R : Int) : Prop :=
  ∃ p q y z, gz_bs β B p q b s c ∧ gz_rs ρ R y z ∧ gz_P0 T b s c B p q R y z
def gx_I1 (T : gz_V → Prop) (a p q c : Int) (β ρ : Nat → Int64) (B R : Int) : Prop :=
  ∃ s z, gz_bs β a p q B s c ∧ gz_rs ρ 0 R z ∧ gz_P1 T a p q c B s R z
def gx_I2 (T : gz_V → Prop) (a p q b s : Int) (β ρ : Nat → Int64) (B R : Int) : Prop :=
  gz_bs β a p q b s B ∧ gz_rs ρ 0 0 R ∧ gz_P2 T a p q b s B R
theorem gx_c0 {post : SX → Prop} {rc lsq lsp : Int32} {C : Nat → Int32} {β ρ : Nat → Int64} {T : gz_V → Prop} {b s c a p q x y z : Int}
    (hb : gz_bs β a p q b s c) (hr : gz_rs ρ x y z) (hP : gz_P0 T b s c a p q x y z)
    (h : ∀ β' ρ' a p q y z, gz_bs β' a p q b s c → gz_rs ρ' 0 y z → gz_P0 T b s c a p q 0 y z → post (rc, lsq, lsp, C, β', ρ')) :
    wpX_clearPlace post (rc, lsq, lsp, C, β, ρ) 0 := by
  refine gx_clr 0 (by decide) (gx_I0 T b s c) ?_ ?_ (fun β ρ B ⟨p, q, y, z, h1, h2, h3⟩ => h β ρ B p q y z h1 h2 h3) ⟨p, q, y, z, hb, hr, hP⟩
  · intro β ρ B R ⟨p, q, y, z, h1, h2, h3⟩
    refine ⟨h1.1, h2.1, ?_, ?_⟩
    · have := h3.2.1
      omega
    · have := h3.2.2.1
      omega
  · intro β ρ B R ⟨p, q, y, z, ⟨b0, b1, b2, b3, b4, b5, b6, b7, b8⟩, ⟨r0, r1, r2⟩, h3⟩ hR
    refine ⟨y, z, p - B.tdiv R * y, q - B.tdiv R * z, ⟨?_, ?_, ?_, ?_, ?_, ?_, ?_, ?_, ?_⟩, ⟨?_, ?_, ?_⟩, gz_P0s h3 hR⟩
    · exact (gx_bi (by decide)).trans r0
    · exact (gx_bi (by decide)).trans r1
    · exact (gx_bi (by decide)).trans r2
    · exact (gx_bo (by decide)).trans b3
    · exact (gx_bo (by decide)).trans b4
    · exact (gx_bo (by decide)).trans b5
    · exact (gx_bo (by decide)).trans b6
    · exact (gx_bo (by decide)).trans b7
    · exact (gx_bo (by decide)).trans b8
    · exact (gx_ri (by decide)).trans (gx_s b0 r0)
    · exact (gx_ri (by decide)).trans (gx_s b1 r1)
    · exact (gx_ri (by decide)).trans (gx_s b2 r2)
theorem gx_c1 {post : SX → Prop} {rc lsq lsp : Int32} {C : Nat → Int32} {β ρ : Nat → Int64} {T : gz_V → Prop} {b s c a p q y z : Int}
    (hb : gz_bs β a p q b s c) (hr : gz_rs ρ 0 y z) (hP : gz_P1 T a p q c b s y z)
    (h : ∀ β' ρ' b s z, gz_bs β' a p q b s c → gz_rs ρ' 0 0 z → gz_P1 T a p q c b s 0 z → post (rc, lsq, lsp, C, β', ρ')) :
    wpX_clearPlace post (rc, lsq, lsp, C, β, ρ) 1 := by
  refine gx_clr 1 (by decide) (gx_I1 T a p q c) ?_ ?_ (fun β ρ B ⟨s, z, h1, h2, h3⟩ => h β ρ B s z h1 h2 h3) ⟨s, z, hb, hr, hP⟩
  · intro β ρ B R ⟨s, z, h1, h2, h3⟩
    refine ⟨h1.2.2.2.2.1, h2.2.1, ?_, ?_⟩
    · have := h3.2.1
      omega
    · have := h3.2.2.1
      omega
  · intro β ρ B R ⟨s, z, ⟨b0, b1, b2, b3, b4, b5, b6, b7, b8⟩, ⟨r0, r1, r2⟩, h3⟩ hR
    refine ⟨z, s - B.tdiv R * z, ⟨?_, ?_, ?_, ?_, ?_, ?_, ?_, ?_, ?_⟩, ⟨?_, ?_, ?_⟩, gz_P1s h3 hR⟩
    · exact (gx_bo (by decide)).trans b0
    · exact (gx_bo (by decide)).trans b1
    · exact (gx_bo (by decide)).trans b2
    · exact (gx_bo (by decide)).trans b3
    · exact (gx_bi (by decide)).trans r1
    · exact (gx_bi (by decide)).trans r2
    · exact (gx_bo (by decide)).trans b6
    · exact (gx_bo (by decide)).trans b7
    · exact (gx_bo (by decide)).trans b8
    · exact (gx_ro (by decide)).trans r0
    · exact (gx_ri (by decide)).trans (gx_s b4 r1)
    · exact (gx_ri (by decide)).trans (gx_s b5 r2)
theorem gx_c2 {post : SX → Prop} {rc lsq lsp : Int32} {C : Nat → Int32} {β ρ : Nat → Int64} {T : gz_V → Prop} {b s c a p q z : Int}
    (hb : gz_bs β a p q b s c) (hr : gz_rs ρ 0 0 z) (hP : gz_P2 T a p q b s c z)
    (h : ∀ β' ρ' c, gz_bs β' a p q b s c → gz_P2 T a p q b s c 0 → post (rc, lsq, lsp, C, β', ρ')) :
    wpX_clearPlace post (rc, lsq, lsp, C, β, ρ) 2 := by
  refine gx_clr 2 (by decide) (gx_I2 T a p q b s) ?_ ?_ (fun β ρ B ⟨h1, h2, h3⟩ => h β ρ B h1 h3) ⟨hb, hr, hP⟩
  · intro β ρ B R ⟨h1, h2, h3⟩
    refine ⟨h1.2.2.2.2.2.2.2.2, h2.2.2, ?_, ?_⟩
    · have := h3.2.1
      omega
    · have := h3.2.2
      omega
  · intro β ρ B R ⟨⟨b0, b1, b2, b3, b4, b5, b6, b7, b8⟩, ⟨r0, r1, r2⟩, h3⟩ hR
    refine ⟨⟨?_, ?_, ?_, ?_, ?_, ?_, ?_, ?_, ?_⟩, ⟨?_, ?_, ?_⟩, gz_P2s h3 hR⟩
    · exact (gx_bo (by decide)).trans b0
    · exact (gx_bo (by decide)).trans b1
    · exact (gx_bo (by decide)).trans b2
    · exact (gx_bo (by decide)).trans b3
    · exact (gx_bo (by decide)).trans b4
    · exact (gx_bo (by decide)).trans b5
    · exact (gx_bo (by decide)).trans b6
    · exact (gx_bo (by decide)).trans b7
    · exact (gx_bi (by decide)).trans r2
    · exact (gx_ro (by decide)).trans r0
    · exact (gx_ro (by decide)).trans r1
    · exact (gx_ri (by decide)).trans (gx_s b8 r2)
/-- the rows as both sides hold them: n rows, the numbers w -/
def gz_cw (n : Nat) (w : Nat → Int) (C : Nat → Int32) : Prop := ∀ j, j < 3 * n → C j = gz_i (w j)
def gz_sw (n : Nat) (w : Nat → Int) : Prop := n ≤ 4 ∧ ∀ j, j < 3 * n → (w j).natAbs ≤ 9
theorem gx_take {post : SX → Prop} {rc lsq lsp : Int32} {C : Nat → Int32} {β ρ : Nat → Int64} {G : gz_V → Prop} {b s c a p q : Int} {n r : Nat} {w : Nat → Int}
    (hw : gz_sw n w) (hC : gz_cw n w C) (hr : r < n) (hG : gz_Sm G) (hs : ∀ v, gz_Sp (gz_B a p q b s c) v ↔ gz_Sp G v) (hH : gz_H a p q b s c) (hb : gz_bs β a p q b s c)
    (h : ∀ β' ρ' a p q b s c, gz_bs β' a p q b s c → gz_P3 (gz_Sp (gz_pl G (gz_ro w r))) a p q b s c → post (rc, lsq, lsp, C, β', ρ')) :
    wpX_takeIn post (rc, lsq, lsp, C, β, ρ) (nI r) := by
  have hn := hw.1
  refine loop_0 (fun n i (s : Nat → Int64) => wX_takeIn_2 post (nI r) rc lsq lsp n (nI i) C β s) (fun i s => ∀ j, j < i → s j = gz_l (w (3 * r + j))) 3 ρ lt_0 ?_ ?_
  · intro m t ht
    refine br_t (by decide) ⟨4, ?_⟩
    have w0 := hw.2 (3 * r + 0) (by omega)
    have w1 := hw.2 (3 * r + 1) (by omega)
    have w2 := hw.2 (3 * r + 2) (by omega)
    have bd := gz_bd hG hs hH
    have h0 : gz_P0 (gz_Sp (gz_pl G (gz_ro w r))) b s c a p q (w (3 * r + 0)) (w (3 * r + 1)) (w (3 * r + 2)) := gz_P0i hG hs hH w0 w1 w2
    refine br_f (by decide) (gx_c0 hb ⟨ht 0 (by decide), ht 1 (by decide), ht 2 (by decide)⟩ h0 ?_)
    intro β1 ρ1 a1 p1 q1 y1 z1 hb1 hr1 hP1
    refine nm_r (show (0 : Int32) + 1 = 1 by decide) (br_f (by decide) (gx_c1 hb1 hr1 (gz_P1i hP1 (by have := hH.2.2.1; omega) bd.2.2.2.2.2 hH.1.2) ?_))
    intro β2 ρ2 b2 s2 z2 hb2 hr2 hP2
    refine nm_r (show (1 : Int32) + 1 = 2 by decide) (br_f (by decide) (gx_c2 hb2 hr2 (gz_P2i hP2 (by have := hH.2.2.2.1; omega)) ?_))
    intro β3 ρ3 c3 hb3 hP3
    exact nm_r (show (2 : Int32) + 1 = 3 by decide) (br_t (by decide) (h _ _ _ _ _ _ _ _ hb3 (gz_P3i hP1 hP2 hP3)))
  · intro m i t hi ht k
    have e1 : (3 * nI r + nI i).toNatClampNeg = 3 * r + i := gx_ad3 (by omega)
    have e2 : (nI i).toNatClampNeg = i := gx_cl (by omega)
    refine br_f (nI_ge (b := 3) hi (by decide)) ⟨gx_vi3 (by omega) (by omega), vp_in_nI hi (by omega), nm_e (nm_r (nI_1 i) (k _ ?_))⟩
    rw [e1, e2, hC (3 * r + i) (by omega)]
    have hwb := hw.2 (3 * r + i) (by omega)
    rw [gz_il (a := w (3 * r + i))]
    intro j hj
    by_cases hji : j = i
    · subst hji
      exact pk_uLs
    · rw [pk_uLn hji]
      exact ht j (by omega)
end
section
/-! X: signs and ranges; the span of all rows -/
theorem gx_sa {post : Int64 → Prop} {rc lsq lsp : Int32} {C : Nat → Int32} {β ρ : Nat → Int64} {i : Nat} (hi : i < 3) (h : post (β (3 * i + i))) :
    wpX_stepAt post (rc, lsq, lsp, C, β, ρ) (nI i) := by
  refine And.intro (gx_vi3 (by omega) (by omega)) ?_
  show post (β (3 * nI i + nI i).toNatClampNeg)
  rw [gx_ad3 (a := i) (b := i) (by omega)]
  exact h
def gx_ng (i : Nat) (β : Nat → Int64) : Nat → Int64 := fun j => if 3 * i + i ≤ j ∧ j < 3 * i + 3 then -(β j) else β j
theorem gx_ni {c j : Nat} {β : Nat → Int64} (h : 3 * c + c ≤ j ∧ j < 3 * c + 3) : gx_ng c β j = -(β j) := if_pos h
theorem gx_no {c j : Nat} {β : Nat → Int64} (h : ¬ (3 * c + c ≤ j ∧ j < 3 * c + 3)) : gx_ng c β j = β j := if_neg h
theorem gx_msp {post : SX → Prop} {rc lsq lsp : Int32} {C : Nat → Int32} {β ρ : Nat → Int64} {B : Int} (i : Nat) (hi : i < 3) (hB : β (3 * i + i) = gz_l B) (hb : B.natAbs < 4294967296)
    (h1 : 0 ≤ B → post (rc, lsq, lsp, C, β, ρ)) (h2 : B < 0 → post (rc, lsq, lsp, C, gx_ng i β, ρ)) : wpX_makeStepPositive post (rc, lsq, lsp, C, β, ρ) (nI i) := by
  unfold wpX_makeStepPositive
  dsimp only
  refine gx_sa hi ?_
  rw [hB]
  refine gz_Ll 0 B h1 (fun hn => ?_)
  refine pk_loop (fun n k (s : Nat → Int64) => wX_makeStepPositive_12 post (nI i) rc lsq lsp n (nI k) C s ρ)
    (fun k s => i ≤ k ∧ ∀ j, s j = if 3 * i + i ≤ j ∧ j < 3 * i + k then -(β j) else β j) 3 i β (by omega) ⟨Nat.le_refl i, fun j => (if_neg (by omega)).symm⟩ ?_ ?_
  · intro n s ⟨_, hs⟩
    have e : s = gx_ng i β := funext hs
    rw [e]
    exact br_t (by decide) (h2 hn)
  · intro n k s hk ⟨h0, hs⟩ K
    have e1 : (3 * nI i + nI k).toNatClampNeg = 3 * i + k := gx_ad3 (by omega)
    have v1 : vp_in (3 * nI i + nI k) 9 := gx_vi3 (by omega) (by omega)
    refine br_f (nI_ge (b := 3) hk (by decide)) ⟨v1, v1, nm_e (nm_r (nI_1 k) (K _ ⟨by omega, fun j => ?_⟩))⟩
    rw [e1]
    by_cases hj : j = 3 * i + k
    · subst hj
      rw [pk_uLs, if_pos (by omega), hs, if_neg (by omega)]
    · rw [pk_uLn hj, hs]
      by_cases hq : 3 * i + i ≤ j ∧ j < 3 * i + k
      · rw [if_pos hq, if_pos (by omega)]
      · rw [if_neg hq, if_neg (by omega)]
def gx_rd (i c : Nat) (t : Int64) (β : Nat → Int64) : Nat → Int64 := fun j => if 3 * i + c ≤ j ∧ j < 3 * i + 3 then β j - t * β (3 * c + (j - 3 * i)) else β j
theorem gx_di {i c j : Nat} {t : Int64} {β : Nat → Int64} (h : 3 * i + c ≤ j ∧ j < 3 * i + 3) : gx_rd i c t β j = β j - t * β (3 * c + (j - 3 * i)) := if_pos h
theorem gx_do {i c j : Nat} {t : Int64} {β : Nat → Int64} (h : ¬ (3 * i + c ≤ j ∧ j < 3 * i + 3)) : gx_rd i c t β j = β j := if_neg h
theorem gx_redl {post : SX → Prop} {rc lsq lsp : Int32} {C : Nat → Int32} {β ρ : Nat → Int64} {t : Int64} (i c : Nat) (hi : i < c) (hc : c < 3) (h : post (rc, lsq, lsp, C, gx_rd i c t β, ρ)) :
    ∃ n, wX_reduceNumber_50 post (nI i) (nI c) t rc lsq lsp n (nI c) C β ρ := by
  refine pk_loop (fun n k (s : Nat → Int64) => wX_reduceNumber_50 post (nI i) (nI c) t rc lsq lsp n (nI k) C s ρ)
    (fun k s => c ≤ k ∧ ∀ j, s j = if 3 * i + c ≤ j ∧ j < 3 * i + k then β j - t * β (3 * c + (j - 3 * i)) else β j) 3 c β (by omega) ⟨Nat.le_refl c, fun j => (if_neg (by omega)).symm⟩ ?_ ?_
  · intro n s ⟨_, hs⟩
    have e : s = gx_rd i c t β := funext hs
    rw [e]
    exact br_t (by decide) h
  · intro n k s hk ⟨h0, hs⟩ K
    have e1 : (3 * nI i + nI k).toNatClampNeg = 3 * i + k := gx_ad3 (by omega)
    have e2 : (3 * nI c + nI k).toNatClampNeg = 3 * c + k := gx_ad3 (by omega)
    have v1 : vp_in (3 * nI i + nI k) 9 := gx_vi3 (by omega) (by omega)
    have v2 : vp_in (3 * nI c + nI k) 9 := gx_vi3 (by omega) (by omega)
    refine br_f (nI_ge (b := 3) hk (by decide)) ⟨v1, v2, v1, nm_e (nm_r (nI_1 k) (K _ ⟨by omega, fun j => ?_⟩))⟩
    rw [e1, e2]
    by_cases hj : j = 3 * i + k
    · subst hj
      rw [pk_uLs, if_pos (by omega), hs, if_neg (by omega), hs, if_neg (by omega)]
      congr 3
      omega
    · rw [pk_uLn hj, hs]
      by_cases hq : 3 * i + c ≤ j ∧ j < 3 * i + k
      · rw [if_pos hq, if_pos (by omega)]
      · rw [if_neg hq, if_neg (by omega)]
theorem gx_red {post : SX → Prop} {rc lsq lsp : Int32} {C : Nat → Int32} {β ρ : Nat → Int64} {d n : Int} (i c : Nat) (hi : i < c) (hc : c < 3)
    (hd : β (3 * c + c) = gz_l d) (hn : β (3 * i + c) = gz_l n) (h0 : 0 ≤ d) (hd2 : d.natAbs < 4294967296) (hn2 : n.natAbs < 4611686018427387904)
    (hz : d = 0 → post (rc, lsq, lsp, C, β, ρ)) (hp : ∀ t, 0 < d → gz_tm n d t → post (rc, lsq, lsp, C, gx_rd i c (gz_l t) β, ρ)) :
    wpX_reduceNumber post (rc, lsq, lsp, C, β, ρ) (nI i) (nI c) := by
  unfold wpX_reduceNumber
  dsimp only
  refine gx_sa hc ?_
  rw [hd]
  refine gz_Le d 0 hz (fun hne => ?_)
  have hne2 : ¬ gz_l d = 0 := fun e => hne ((gz_lE (b := 0)).1 e)
  have e1 : (3 * nI i + nI c).toNatClampNeg = 3 * i + c := gx_ad3 (by omega)
  refine ⟨gx_vi3 (by omega) (by omega), nm_r (by rw [e1, hn]) ⟨hne2, nm_r gz_lD ?_⟩⟩
  have hpos : 0 < d := by omega
  have ht := gz_tma (n := n) hpos
  have hm : gz_l (n.tdiv d) * gz_l d = gz_l (n.tdiv d * d) := gz_lm _ _
  rw [hm]
  have q1 : (n - n.tdiv d * d).natAbs < d.natAbs := by
    rw [gz_e1]
    exact Nat.mod_lt _ (by omega)
  refine gz_Ll (n.tdiv d * d) n (fun hle => gx_redl i c hi hc (hp _ hpos (ht.2 hle))) (fun hlt => nm_r (gz_ls _ 1) (gx_redl i c hi hc (hp _ hpos (ht.1 hlt))))
end
section
/-! X: the basis brought into its ranges, row by row -/
theorem gx_m2 {post : SX → Prop} {rc lsq lsp : Int32} {C : Nat → Int32} {β ρ : Nat → Int64} {T : gz_V → Prop} {a p q b s c : Int}
    (hb : gz_bs β a p q b s c) (hP : gz_P3 T a p q b s c) (h : ∀ β' c', gz_bs β' a p q b s c' → gz_P3 T a p q b s c' → 0 ≤ c' → post (rc, lsq, lsp, C, β', ρ)) :
    wpX_makeStepPositive post (rc, lsq, lsp, C, β, ρ) 2 := by
  obtain ⟨b0, b1, b2, b3, b4, b5, b6, b7, b8⟩ := hb
  obtain ⟨hs, ⟨z1, z2⟩, k1, k2, k3, k4, k5, k6⟩ := hP
  refine gx_msp 2 (by decide) b8 (by omega) (fun h0 => ?_) (fun h0 => ?_)
  · exact h β c ⟨b0, b1, b2, b3, b4, b5, b6, b7, b8⟩ ⟨hs, ⟨z1, z2⟩, k1, k2, k3, k4, k5, k6⟩ h0
  · refine h (gx_ng 2 β) (-c) ⟨?_, ?_, ?_, ?_, ?_, ?_, ?_, ?_, ?_⟩ ⟨fun v => (gz_sg2 v).symm.trans (hs v), ⟨?_, ?_⟩, by omega, by omega, by omega, by omega, by omega, by omega⟩ (by omega)
    · exact (gx_no (by decide)).trans b0
    · exact (gx_no (by decide)).trans b1
    · exact (gx_no (by decide)).trans b2
    · exact (gx_no (by decide)).trans b3
    · exact (gx_no (by decide)).trans b4
    · exact (gx_no (by decide)).trans b5
    · exact (gx_no (by decide)).trans b6
    · exact (gx_no (by decide)).trans b7
    · exact (gx_ni (by decide)).trans (by rw [b8, gz_lng])
    · intro h; have := z1 (by omega); omega
    · intro h; have := z2 (by omega); omega
theorem gx_m1 {post : SX → Prop} {rc lsq lsp : Int32} {C : Nat → Int32} {β ρ : Nat → Int64} {T : gz_V → Prop} {a p q b s c : Int}
    (hb : gz_bs β a p q b s c) (hP : gz_P3 T a p q b s c) (h : ∀ β' b' s', gz_bs β' a p q b' s' c → gz_P3 T a p q b' s' c → 0 ≤ b' → post (rc, lsq, lsp, C, β', ρ)) :
    wpX_makeStepPositive post (rc, lsq, lsp, C, β, ρ) 1 := by
  obtain ⟨b0, b1, b2, b3, b4, b5, b6, b7, b8⟩ := hb
  obtain ⟨hs, ⟨z1, z2⟩, k1, k2, k3, k4, k5, k6⟩ := hP
  refine gx_msp 1 (by decide) b4 (by omega) (fun h0 => ?_) (fun h0 => ?_)
  · exact h β b s ⟨b0, b1, b2, b3, b4, b5, b6, b7, b8⟩ ⟨hs, ⟨z1, z2⟩, k1, k2, k3, k4, k5, k6⟩ h0
  · refine h (gx_ng 1 β) (-b) (-s) ⟨?_, ?_, ?_, ?_, ?_, ?_, ?_, ?_, ?_⟩ ⟨fun v => (gz_sg1 v).symm.trans (hs v), ⟨?_, ?_⟩, by omega, by omega, by omega, by omega, by omega, by omega⟩ (by omega)
    · exact (gx_no (by decide)).trans b0
    · exact (gx_no (by decide)).trans b1
    · exact (gx_no (by decide)).trans b2
    · exact (gx_no (by decide)).trans b3
    · exact (gx_ni (by decide)).trans (by rw [b4, gz_lng])
    · exact (gx_ni (by decide)).trans (by rw [b5, gz_lng])
    · exact (gx_no (by decide)).trans b6
    · exact (gx_no (by decide)).trans b7
    · exact (gx_no (by decide)).trans b8
    · intro h; have := z1 (by omega); omega
    · intro h; have := z2 (by omega); omega
theorem gx_m0 {post : SX → Prop} {rc lsq lsp : Int32} {C : Nat → Int32} {β ρ : Nat → Int64} {T : gz_V → Prop} {a p q b s c : Int}
    (hb : gz_bs β a p q b s c) (hP : gz_P3 T a p q b s c) (h : ∀ β' a' p' q', gz_bs β' a' p' q' b s c → gz_P3 T a' p' q' b s c → 0 ≤ a' → post (rc, lsq, lsp, C, β', ρ)) :
    wpX_makeStepPositive post (rc, lsq, lsp, C, β, ρ) 0 := by
  obtain ⟨b0, b1, b2, b3, b4, b5, b6, b7, b8⟩ := hb
  obtain ⟨hs, ⟨z1, z2⟩, k1, k2, k3, k4, k5, k6⟩ := hP
  refine gx_msp 0 (by decide) b0 (by omega) (fun h0 => ?_) (fun h0 => ?_)
  · exact h β a p q ⟨b0, b1, b2, b3, b4, b5, b6, b7, b8⟩ ⟨hs, ⟨z1, z2⟩, k1, k2, k3, k4, k5, k6⟩ h0
  · refine h (gx_ng 0 β) (-a) (-p) (-q) ⟨?_, ?_, ?_, ?_, ?_, ?_, ?_, ?_, ?_⟩ ⟨fun v => (gz_sg0 v).symm.trans (hs v), ⟨?_, ?_⟩, by omega, by omega, by omega, by omega, by omega, by omega⟩ (by omega)
    · exact (gx_ni (by decide)).trans (by rw [b0, gz_lng])
    · exact (gx_ni (by decide)).trans (by rw [b1, gz_lng])
    · exact (gx_ni (by decide)).trans (by rw [b2, gz_lng])
    · exact (gx_no (by decide)).trans b3
    · exact (gx_no (by decide)).trans b4
    · exact (gx_no (by decide)).trans b5
    · exact (gx_no (by decide)).trans b6
    · exact (gx_no (by decide)).trans b7
    · exact (gx_no (by decide)).trans b8
    · intro h; have := z1 (by omega); omega
    · intro h; have := z2 (by omega); omega
theorem gx_r12 {post : SX → Prop} {rc lsq lsp : Int32} {C : Nat → Int32} {β ρ : Nat → Int64} {T : gz_V → Prop} {a p q b s c : Int}
    (hb : gz_bs β a p q b s c) (hP : gz_P3 T a p q b s c) (hc : 0 ≤ c) (h : ∀ β' s', gz_bs β' a p q b s' c → gz_P3 T a p q b s' c → (c ≠ 0 → 0 ≤ s' ∧ s' < c) → post (rc, lsq, lsp, C, β', ρ)) :
    wpX_reduceNumber post (rc, lsq, lsp, C, β, ρ) 1 2 := by
  obtain ⟨b0, b1, b2, b3, b4, b5, b6, b7, b8⟩ := hb
  obtain ⟨hs, ⟨z1, z2⟩, k1, k2, k3, k4, k5, k6⟩ := hP
  refine gx_red 1 2 (by decide) (by decide) b8 b5 hc (by omega) (by omega) (fun h0 => ?_) (fun t h0 ht => ?_)
  · exact h β s ⟨b0, b1, b2, b3, b4, b5, b6, b7, b8⟩ ⟨hs, ⟨z1, z2⟩, k1, k2, k3, k4, k5, k6⟩ (fun e => absurd h0 e)
  · obtain ⟨t1, t2, t3, t4⟩ := ht
    refine h (gx_rd 1 2 (gz_l t) β) (s - t * c) ⟨?_, ?_, ?_, ?_, ?_, ?_, ?_, ?_, ?_⟩ ⟨fun v => (gz_rg1 t v).symm.trans (hs v), ⟨z1, fun e => ?_⟩, k1, k2, k3, k4, by omega, k6⟩ (fun _ => ⟨t1, t2⟩)
    · exact (gx_do (by decide)).trans b0
    · exact (gx_do (by decide)).trans b1
    · exact (gx_do (by decide)).trans b2
    · exact (gx_do (by decide)).trans b3
    · exact (gx_do (by decide)).trans b4
    · exact (gx_di (by decide)).trans (gx_s b5 b8)
    · exact (gx_do (by decide)).trans b6
    · exact (gx_do (by decide)).trans b7
    · exact (gx_do (by decide)).trans b8
    · rw [t3 (z2 e), z2 e, Int.zero_mul, Int.sub_zero]
theorem gx_r01 {post : SX → Prop} {rc lsq lsp : Int32} {C : Nat → Int32} {β ρ : Nat → Int64} {T : gz_V → Prop} {a p q b s c : Int}
    (hb : gz_bs β a p q b s c) (hP : gz_P3 T a p q b s c) (hc : 0 ≤ b)
    (h : ∀ β' p' q', gz_bs β' a p' q' b s c → (∀ v, gz_Sp (gz_B a p' q' b s c) v ↔ T v) → gz_Z a p' q' b s → q'.natAbs < 4611686018427387904 → (b ≠ 0 → 0 ≤ p' ∧ p' < b) → post (rc, lsq, lsp, C, β', ρ)) :
    wpX_reduceNumber post (rc, lsq, lsp, C, β, ρ) 0 1 := by
  obtain ⟨b0, b1, b2, b3, b4, b5, b6, b7, b8⟩ := hb
  obtain ⟨hs, ⟨z1, z2⟩, k1, k2, k3, k4, k5, k6⟩ := hP
  refine gx_red 0 1 (by decide) (by decide) b4 b1 hc (by omega) (by omega) (fun h0 => ?_) (fun t h0 ht => ?_)
  · exact h β p q ⟨b0, b1, b2, b3, b4, b5, b6, b7, b8⟩ hs ⟨z1, z2⟩ (by omega) (fun e => absurd h0 e)
  · obtain ⟨t1, t2, t3, t4⟩ := ht
    have t5 : (t * s).natAbs ≤ 237736 * 1078365960 := gz_pm (by omega) k5
    refine h (gx_rd 0 1 (gz_l t) β) (p - t * b) (q - t * s) ⟨?_, ?_, ?_, ?_, ?_, ?_, ?_, ?_, ?_⟩ (fun v => (gz_rg0 t v).symm.trans (hs v)) ⟨fun e => ?_, z2⟩ ?_ (fun _ => ⟨t1, t2⟩)
    · exact (gx_do (by decide)).trans b0
    · exact (gx_di (by decide)).trans (gx_s b1 b4)
    · exact (gx_di (by decide)).trans (gx_s b2 b5)
    · exact (gx_do (by decide)).trans b3
    · exact (gx_do (by decide)).trans b4
    · exact (gx_do (by decide)).trans b5
    · exact (gx_do (by decide)).trans b6
    · exact (gx_do (by decide)).trans b7
    · exact (gx_do (by decide)).trans b8
    · rw [t3 (z1 e).1, (z1 e).1, (z1 e).2, Int.zero_mul, Int.zero_mul]
      exact ⟨rfl, rfl⟩
    · generalize t * s = x at t5 ⊢
      omega
theorem gx_r02 {post : SX → Prop} {rc lsq lsp : Int32} {C : Nat → Int32} {β ρ : Nat → Int64} {T : gz_V → Prop} {a p q b s c : Int}
    (hb : gz_bs β a p q b s c) (hs : ∀ v, gz_Sp (gz_B a p q b s c) v ↔ T v) (hZ : gz_Z a p q b s) (hq : q.natAbs < 4611686018427387904) (hc : 0 ≤ c) (hc2 : c.natAbs < 4294967296)
    (h : ∀ β' q', gz_bs β' a p q' b s c → (∀ v, gz_Sp (gz_B a p q' b s c) v ↔ T v) → gz_Z a p q' b s → (c ≠ 0 → 0 ≤ q' ∧ q' < c) → post (rc, lsq, lsp, C, β', ρ)) :
    wpX_reduceNumber post (rc, lsq, lsp, C, β, ρ) 0 2 := by
  obtain ⟨b0, b1, b2, b3, b4, b5, b6, b7, b8⟩ := hb
  obtain ⟨z1, z2⟩ := hZ
  refine gx_red 0 2 (by decide) (by decide) b8 b2 hc hc2 hq (fun h0 => ?_) (fun t h0 ht => ?_)
  · exact h β q ⟨b0, b1, b2, b3, b4, b5, b6, b7, b8⟩ hs ⟨z1, z2⟩ (fun e => absurd h0 e)
  · obtain ⟨t1, t2, t3, t4⟩ := ht
    refine h (gx_rd 0 2 (gz_l t) β) (q - t * c) ⟨?_, ?_, ?_, ?_, ?_, ?_, ?_, ?_, ?_⟩ (fun v => (gz_rg2 t v).symm.trans (hs v)) ⟨fun e => ?_, z2⟩ (fun _ => ⟨t1, t2⟩)
    · exact (gx_do (by decide)).trans b0
    · exact (gx_do (by decide)).trans b1
    · exact (gx_di (by decide)).trans (gx_s b2 b8)
    · exact (gx_do (by decide)).trans b3
    · exact (gx_do (by decide)).trans b4
    · exact (gx_do (by decide)).trans b5
    · exact (gx_do (by decide)).trans b6
    · exact (gx_do (by decide)).trans b7
    · exact (gx_do (by decide)).trans b8
    · rw [t3 (z1 e).2, (z1 e).1, (z1 e).2, Int.zero_mul]
      exact ⟨rfl, rfl⟩
theorem gx_bring {post : SX → Prop} {rc lsq lsp : Int32} {C : Nat → Int32} {β ρ : Nat → Int64} {T : gz_V → Prop} {a p q b s c : Int}
    (hb : gz_bs β a p q b s c) (hP : gz_P3 T a p q b s c)
    (h : ∀ β' a p q b s c, gz_bs β' a p q b s c → (∀ v, gz_Sp (gz_B a p q b s c) v ↔ T v) → gz_H a p q b s c → post (rc, lsq, lsp, C, β', ρ)) :
    wpX_bringIntoRange post (rc, lsq, lsp, C, β, ρ) := by
  refine ⟨4, br_f (by decide) (gx_m2 hb hP ?_)⟩
  intro β1 c1 hb1 hP1 hc1
  refine nm_r (show (2 : Int32) + 1 = 3 by decide) ⟨1, br_t (by decide) (nm_r (show (2 : Int32) + (-1) = 1 by decide) (br_f (by decide) (gx_m1 hb1 hP1 ?_)))⟩
  intro β2 b2 s2 hb2 hP2 hb2'
  refine nm_r (show (1 : Int32) + 1 = 2 by decide) ⟨2, br_f (by decide) (gx_r12 hb2 hP2 hc1 ?_)⟩
  intro β3 s3 hb3 hP3 hs3
  refine nm_r (show (2 : Int32) + 1 = 3 by decide) (br_t (by decide) (nm_r (show (1 : Int32) + (-1) = 0 by decide) (br_f (by decide) (gx_m0 hb3 hP3 ?_))))
  intro β4 a4 p4 q4 hb4 hP4 ha4
  refine nm_r (show (0 : Int32) + 1 = 1 by decide) ⟨3, br_f (by decide) (gx_r01 hb4 hP4 hb2' ?_)⟩
  intro β5 p5 q5 hb5 hs5 hZ5 hq5 hp5
  refine nm_r (show (1 : Int32) + 1 = 2 by decide) (br_f (by decide) (gx_r02 hb5 hs5 hZ5 hq5 hc1 (by have := hP4.2.2.2.2.2.2.2; omega) ?_))
  intro β6 q6 hb6 hs6 hZ6 hq6
  refine nm_r (show (2 : Int32) + 1 = 3 by decide) (br_t (by decide) (nm_r (show (0 : Int32) + (-1) = -1 by decide) (br_t (by decide) ?_)))
  exact h _ _ _ _ _ _ _ hb6 hs6 ⟨hZ6, ha4, hb2', hc1, hp5, fun e => ⟨(hq6 e).1, (hq6 e).2, (hs3 e).1, (hs3 e).2⟩⟩
/-- the rows below k, all but lo -/
def gz_R (w : Nat → Int) (lo : Int32) (k : Nat) : gz_V → Prop := gz_G k (fun r => ¬ nI r = lo) (gz_ro w)
theorem gz_Rs {n k : Nat} {w : Nat → Int} {lo : Int32} (hw : gz_sw n w) (hk : k ≤ n) : gz_Sm (gz_R w lo k) :=
  gz_Gs (fun r hr _ => ⟨hw.2 _ (by omega), hw.2 _ (by omega), hw.2 _ (by omega)⟩)
theorem gz_R0 {w : Nat → Int} {lo : Int32} (v : gz_V) : gz_Sp (gz_B 0 0 0 0 0 0) v ↔ gz_Sp (gz_R w lo 0) v := by
  apply gz_SpE
  · intro g hg
    rcases hg with rfl | rfl | rfl <;> exact gz_Sp0
  · intro g ⟨r, hr, _⟩
    exact absurd hr (by omega)
theorem gz_Ry {w : Nat → Int} {lo : Int32} {k : Nat} (h : nI k = lo) (v : gz_V) : gz_Sp (gz_R w lo k) v ↔ gz_Sp (gz_R w lo (k + 1)) v := by
  apply gz_SpE
  · intro g ⟨r, hr, hn, e⟩
    exact gz_SpG ⟨r, by omega, hn, e⟩
  · intro g ⟨r, hr, hn, e⟩
    by_cases hk : r = k
    · subst hk; exact absurd h hn
    · exact gz_SpG ⟨r, by omega, hn, e⟩
theorem gz_Rn {w : Nat → Int} {lo : Int32} {k : Nat} (h : ¬ nI k = lo) (v : gz_V) : gz_Sp (gz_pl (gz_R w lo k) (gz_ro w k)) v ↔ gz_Sp (gz_R w lo (k + 1)) v := by
  apply gz_SpE
  · intro g hg
    rcases hg with ⟨r, hr, hn, e⟩ | e
    · exact gz_SpG ⟨r, by omega, hn, e⟩
    · exact gz_SpG ⟨k, by omega, h, e⟩
  · intro g ⟨r, hr, hn, e⟩
    by_cases hk : r = k
    · subst hk; exact gz_SpG (Or.inr e)
    · exact gz_SpG (Or.inl ⟨r, by omega, hn, e⟩)
theorem gx_span {post : SX → Prop} {lsq lsp lo : Int32} {C : Nat → Int32} {β ρ : Nat → Int64} {n : Nat} {w : Nat → Int} (hw : gz_sw n w) (hC : gz_cw n w C)
    (h : ∀ β' ρ' a p q b s c, gz_bs β' a p q b s c → (∀ v, gz_Sp (gz_B a p q b s c) v ↔ gz_Sp (gz_R w lo n) v) → gz_H a p q b s c → post (nI n, lsq, lsp, C, β', ρ')) :
    wpX_spanWithout post (nI n, lsq, lsp, C, β, ρ) lo := by
  have hn := hw.1
  refine loop_0 (fun m i (s : Nat → Int64) => wX_spanWithout_2 post lo (nI n) lsq lsp m (nI i) C s ρ) (fun i s => ∀ j, j < i → s j = 0) 9 β lt_0 ?_ ?_
  · intro m t ht
    refine br_t (by decide) ?_
    refine loop_0 (fun m i (s : (Nat → Int64) × (Nat → Int64)) => wX_spanWithout_23 post lo m (nI i) (nI n) lsq lsp C s.1 s.2)
      (fun i s => ∃ a p q b s1 c, gz_bs s.1 a p q b s1 c ∧ (∀ v, gz_Sp (gz_B a p q b s1 c) v ↔ gz_Sp (gz_R w lo i) v) ∧ gz_H a p q b s1 c) n (t, ρ) ?_ ?_ ?_
    · refine ⟨0, 0, 0, 0, 0, 0, ⟨ht 0 (by decide), ht 1 (by decide), ht 2 (by decide), ht 3 (by decide), ht 4 (by decide), ht 5 (by decide), ht 6 (by decide), ht 7 (by decide), ht 8 (by decide)⟩, gz_R0, ⟨⟨fun _ => ⟨rfl, rfl⟩, fun _ => rfl⟩, by decide, by decide, by decide, fun e => absurd rfl e, fun e => absurd rfl e⟩⟩
    · intro m s ⟨a, p, q, b, s1, c, h1, h2, h3⟩
      exact br_t (nI_le (Nat.le_refl n) (by omega)) (h _ _ _ _ _ _ _ _ h1 h2 h3)
    · intro m i s hi ⟨a, p, q, b, s1, c, h1, h2, h3⟩ K
      refine br_f (nI_ge hi (by omega)) (br_c (fun e => ?_) (fun e => ?_))
      · exact nm_r (nI_1 i) (K s ⟨a, p, q, b, s1, c, h1, fun v => (h2 v).trans (gz_Ry e v), h3⟩)
      · refine gx_take hw hC hi (gz_Rs hw (by omega)) h2 h3 h1 ?_
        intro β1 ρ1 a1 p1 q1 b1 s2 c1 g1 g2
        refine gx_bring g1 g2 ?_
        intro β2 a2 p2 q2 b2 s3 c2 k1 k2 k3
        exact nm_r (nI_1 i) (K (β2, ρ1) ⟨a2, p2, q2, b2, s3, c2, k1, fun v => (k2 v).trans (gz_Rn e v), k3⟩)
  · intro m i t hi ht K
    refine br_f (nI_ge (b := 9) hi (by decide)) ⟨vp_in_nI hi (by omega), nm_e (nm_r (nI_1 i) (K _ ?_))⟩
    rw [gx_cl (a := i) (by omega)]
    intro j hj
    by_cases hji : j = i
    · subst hji
      exact pk_uLs
    · rw [pk_uLn hji]
      exact ht j (by omega)
end
section
/-! X: whether the grid of the basis has a point -/
def gx_tf (c : Nat) (t : Int64) (β ρ : Nat → Int64) : Nat → Int64 := fun j => if c ≤ j ∧ j < 3 then ρ j - t * β (3 * c + j) else ρ j
theorem gx_fi {c j : Nat} {t : Int64} {β ρ : Nat → Int64} (h : c ≤ j ∧ j < 3) : gx_tf c t β ρ j = ρ j - t * β (3 * c + j) := if_pos h
theorem gx_fo {c j : Nat} {t : Int64} {β ρ : Nat → Int64} (h : ¬ (c ≤ j ∧ j < 3)) : gx_tf c t β ρ j = ρ j := if_neg h
theorem gx_tfr {post : SX → Prop} {rc lsq lsp : Int32} {C : Nat → Int32} {β ρ : Nat → Int64} {t : Int64} (c : Nat) (hc : c < 3) (h : post (rc, lsq, lsp, C, β, gx_tf c t β ρ)) :
    wpX_takeFromRest post (rc, lsq, lsp, C, β, ρ) (nI c) t := by
  refine pk_loop (fun n k (s : Nat → Int64) => wX_takeFromRest_3 post (nI c) t rc lsq lsp n (nI k) C β s)
    (fun k s => c ≤ k ∧ ∀ j, s j = if c ≤ j ∧ j < k then ρ j - t * β (3 * c + j) else ρ j) 3 c ρ (by omega) ⟨Nat.le_refl c, fun j => (if_neg (by omega)).symm⟩ ?_ ?_
  · intro n s ⟨_, hs⟩
    have e : s = gx_tf c t β ρ := funext hs
    rw [e]
    exact br_t (by decide) h
  · intro n k s hk ⟨h0, hs⟩ K
    have e1 : (3 * nI c + nI k).toNatClampNeg = 3 * c + k := gx_ad3 (by omega)
    have e2 : (nI k).toNatClampNeg = k := gx_cl (by omega)
    have v1 : vp_in (3 * nI c + nI k) 9 := gx_vi3 (by omega) (by omega)
    have v2 : vp_in (nI k) 3 := vp_in_nI hk (by omega)
    refine br_f (nI_ge (b := 3) hk (by decide)) ⟨v2, v1, v2, nm_e (nm_r (nI_1 k) (K _ ⟨by omega, fun j => ?_⟩))⟩
    rw [e1, e2]
    by_cases hj : j = k
    · subst hj
      rw [pk_uLs, if_pos (by omega), hs, if_neg (by omega)]
    · rw [pk_uLn hj, hs]
      by_cases hq : c ≤ j ∧ j < k
      · rw [if_pos hq, if_pos (by omega)]
      · rw [if_neg hq, if_neg (by omega)]
theorem gx_l0 (x y : Int64) : x = x - gz_l 0 * y := by
  show x = x - 0 * y
  rw [Int64.zero_mul, Int64.sub_zero]
theorem gx_cst {post : Int32 → SX → Prop} {rc lsq lsp : Int32} {C : Nat → Int32} {β ρ : Nat → Int64} {v d : Int} {n : Nat} (c : Nat) (hc : c < 3) (hv : ρ c = gz_l v) (hd : β (3 * c + c) = gz_l d)
    (hvb : v.natAbs < 4611686018427387904) (hdb : d.natAbs < 4294967296)
    (hA : d ∣ v → ∀ ρ', (∀ j, c ≤ j → j < 3 → ρ' j = ρ j - gz_l (v.tdiv d) * β (3 * c + j)) → wX_contains_10 post n (nI (c + 1)) rc lsq lsp C β ρ')
    (hB : ¬ d ∣ v → post 0 (rc, lsq, lsp, C, β, ρ)) : wX_contains_10 post (n + 1) (nI c) rc lsq lsp C β ρ := by
  have e2 : (nI c).toNatClampNeg = c := gx_cl (by omega)
  have hr : ρ (nI c).toNatClampNeg = gz_l v := by rw [e2, hv]
  have vi : vp_in (nI c) 3 := vp_in_nI hc (by omega)
  refine br_f (nI_ge (b := 3) hc (by decide)) (gx_sa hc ?_)
  rw [hd]
  refine ⟨vi, gz_Le v 0 (fun h0 => ?_) (fun hne => ?_) hr⟩
  · refine nm_r (nI_1 c) (hA (by rw [h0]; exact Int.dvd_zero d) ρ (fun j _ _ => ?_))
    rw [h0, Int.zero_tdiv]
    exact gx_l0 _ _
  · refine gz_Le d 0 (fun d0 => hB (fun hdv => hne (by rw [d0] at hdv; exact Int.zero_dvd.1 hdv))) (fun dne => ?_)
    have dne2 : ¬ gz_l d = 0 := fun e => dne ((gz_lE (b := 0)).1 e)
    have em : ρ (nI c).toNatClampNeg - ρ (nI c).toNatClampNeg / gz_l d * gz_l d = gz_l (v.tmod d) := by
      rw [hr]
      exact gz_lR
    have tb : (v.tmod d).natAbs < 4294967296 := by
      rw [Int.natAbs_tmod]
      have := Nat.mod_lt v.natAbs (show 0 < d.natAbs by omega)
      omega
    refine ⟨vi, dne2, gz_Le (v.tmod d) 0 (fun h0 => ?_) (fun h0 => ?_) em⟩
    · have hdv : d ∣ v := Int.dvd_of_tmod_eq_zero h0
      refine ⟨vi, dne2, ?_⟩
      have ed : ρ (nI c).toNatClampNeg / gz_l d = gz_l (v.tdiv d) := by
        rw [hr]
        exact gz_lD
      rw [ed]
      refine gx_tfr c hc ?_
      exact nm_r (nI_1 c) (hA hdv _ (fun j h1 h2 => gx_fi ⟨h1, h2⟩))
    · exact hB (fun hdv => h0 (Int.tmod_eq_zero_of_dvd hdv))
theorem gx_tq {v d k : Int} (h : v = k * d) : (v.tdiv d).natAbs ≤ v.natAbs := by
  rw [gz_e2]
  exact Nat.div_le_self _ _
/-- the bounds of a basis that is in its ranges -/
def gz_Bd (a p q b s c : Int) : Prop := a ≤ 9 ∧ b ≤ 162 ∧ c ≤ 4374 ∧ p.natAbs ≤ 162 ∧ q.natAbs ≤ 26406 ∧ s.natAbs ≤ 4374
theorem gx_pr3 {ρ : Nat → Int64} {x y z : Int} (hx : x.natAbs ≤ 5000) (hy : y.natAbs ≤ 5000) (hz : z.natAbs ≤ 5000) :
    gz_rs (vp_updL (vp_updL (vp_updL ρ 0 (gz_i x).toInt64) 1 (gz_i y).toInt64) 2 (gz_i z).toInt64) x y z := by
  refine ⟨?_, ?_, ?_⟩
  · exact (pk_uLn (by decide)).trans ((pk_uLn (by decide)).trans (pk_uLs.trans gz_il))
  · exact (pk_uLn (by decide)).trans (pk_uLs.trans gz_il)
  · exact pk_uLs.trans gz_il
theorem gx_con {post : Int32 → SX → Prop} {rc lsq lsp : Int32} {C : Nat → Int32} {β ρ : Nat → Int64} {a p q b s c x y z : Int} (hb : gz_bs β a p q b s c) (hH : gz_H a p q b s c) (hB : gz_Bd a p q b s c)
    (hx : x.natAbs ≤ 5000) (hy : y.natAbs ≤ 5000) (hz : z.natAbs ≤ 5000)
    (h1 : gz_Sp (gz_B a p q b s c) (x, y, z) → ∀ ρ', post 1 (rc, lsq, lsp, C, β, ρ')) (h0 : ¬ gz_Sp (gz_B a p q b s c) (x, y, z) → ∀ ρ', post 0 (rc, lsq, lsp, C, β, ρ')) :
    wpX_contains post (rc, lsq, lsp, C, β, ρ) (gz_i x) (gz_i y) (gz_i z) := by
  obtain ⟨b0, b1, b2, b3, b4, b5, b6, b7, b8⟩ := hb
  obtain ⟨k1, k2, k3, k4, k5, k6⟩ := hB
  obtain ⟨hZ, g1, g2, g3, _, _⟩ := hH
  have hin := gz_in (c := c) (x := x) (y := y) (z := z) hZ
  unfold wpX_contains
  dsimp only
  refine nm_e (nm_e (nm_e ⟨4, ?_⟩))
  obtain ⟨r0, r1, r2⟩ := gx_pr3 (ρ := ρ) hx hy hz
  generalize vp_updL (vp_updL (vp_updL ρ 0 (gz_i x).toInt64) 1 (gz_i y).toInt64) 2 (gz_i z).toInt64 = ρ0 at r0 r1 r2
  refine gx_cst 0 (by decide) r0 b0 (by omega) (by omega) (fun hd0 ρ1 e1 => ?_) (fun hn => h0 (fun hm => hn (hin.1 hm).1) _)
  have t0 : (x.tdiv a).natAbs ≤ x.natAbs := by rw [gz_e2]; exact Nat.div_le_self _ _
  have m1 := gz_pm (show (x.tdiv a).natAbs ≤ 5000 by omega) k4
  have m2 := gz_pm (show (x.tdiv a).natAbs ≤ 5000 by omega) k5
  have r11 : ρ1 1 = gz_l (y - x.tdiv a * p) := (e1 1 (by decide) (by decide)).trans (gx_s r1 b1)
  have r12 : ρ1 2 = gz_l (z - x.tdiv a * q) := (e1 2 (by decide) (by decide)).trans (gx_s r2 b2)
  have y1b : (y - x.tdiv a * p).natAbs ≤ 815000 := by
    generalize x.tdiv a * p = t at *
    omega
  have z1b : (z - x.tdiv a * q).natAbs ≤ 132035000 := by
    generalize x.tdiv a * q = t at *
    omega
  refine gx_cst 1 (by decide) r11 b4 (by omega) (by omega) (fun hd1 ρ2 e2 => ?_) (fun hn => h0 (fun hm => hn (hin.1 hm).2.1) _)
  have t1 : ((y - x.tdiv a * p).tdiv b).natAbs ≤ (y - x.tdiv a * p).natAbs := by rw [gz_e2]; exact Nat.div_le_self _ _
  have m3 := gz_pm (show ((y - x.tdiv a * p).tdiv b).natAbs ≤ 815000 by omega) k6
  have r22 : ρ2 2 = gz_l (z - x.tdiv a * q - (y - x.tdiv a * p).tdiv b * s) := (e2 2 (by decide) (by decide)).trans (gx_s r12 b5)
  have z2b : (z - x.tdiv a * q - (y - x.tdiv a * p).tdiv b * s).natAbs < 4294967296000 := by
    generalize (y - x.tdiv a * p).tdiv b * s = t at *
    generalize x.tdiv a * q = t2 at *
    omega
  refine gx_cst 2 (by decide) r22 b8 (by omega) (by omega) (fun hd2 ρ3 e3 => ?_) (fun hn => h0 (fun hm => hn (hin.1 hm).2.2) _)
  exact br_t (by decide) (h1 (hin.2 ⟨hd0, hd1, hd2⟩) _)
end
section
/-! X: the least multiple of a point, place by place -/
def gx_mr (f : Int64) (ρ : Nat → Int64) : Nat → Int64 := fun j => if j < 3 then ρ j * f else ρ j
theorem gx_mul {post : SX → Prop} {rc lsq lsp : Int32} {C : Nat → Int32} {β ρ : Nat → Int64} {f : Int64} (h : post (rc, lsq, lsp, C, β, gx_mr f ρ)) :
    wpX_multiplyRest post (rc, lsq, lsp, C, β, ρ) f := by
  refine loop_0 (fun n k (s : Nat → Int64) => wX_multiplyRest_2 post f rc lsq lsp n (nI k) C β s)
    (fun k s => ∀ j, s j = if j < k then ρ j * f else ρ j) 3 ρ (fun j => (if_neg (by omega)).symm) ?_ ?_
  · intro n s hs
    have e : s = gx_mr f ρ := funext hs
    rw [e]
    exact br_t (by decide) h
  · intro n k s hk hs K
    have e2 : (nI k).toNatClampNeg = k := gx_cl (by omega)
    have v2 : vp_in (nI k) 3 := vp_in_nI hk (by omega)
    refine br_f (nI_ge (b := 3) hk (by decide)) ⟨v2, v2, nm_e (nm_r (nI_1 k) (K _ (fun j => ?_)))⟩
    rw [e2]
    by_cases hj : j = k
    · subst hj
      rw [pk_uLs, if_pos (by omega), hs, if_neg (by omega)]
    · rw [pk_uLn hj, hs]
      by_cases hq : j < k
      · rw [if_pos hq, if_pos (by omega)]
      · rw [if_neg hq, if_neg (by omega)]
theorem gx_87 {post : Int32 → SX → Prop} {J : Int64 → Int32 → Int32 → Int32 → Int32 → (Nat → Int32) → (Nat → Int64) → (Nat → Int64) → Prop} {rc lsq lsp : Int32} {C : Nat → Int32} {β ρ : Nat → Int64}
    {v d f k m : Int} (c : Nat) (hc : c < 3) (hv : ρ c = gz_l v) (hd : d ≠ 0) (hk : f * v = k * d) (hb : (f * v).natAbs < 4611686018427387904) (hdb : d.natAbs < 4294967296)
    (h : ∀ ρ', (∀ j, c ≤ j → j < 3 → ρ' j = ρ j * gz_l f - gz_l k * β (3 * c + j)) → J (gz_l (m * f)) (nI (c + 1)) rc lsq lsp C β ρ') :
    wX_leastMultiple_87 post J (gz_l m) (nI c) (gz_l d) (gz_l f) rc lsq lsp C β ρ := by
  have e2 : (nI c).toNatClampNeg = c := gx_cl (by omega)
  have vi : vp_in (nI c) 3 := vp_in_nI hc (by omega)
  have dne2 : ¬ gz_l d = 0 := fun e => hd ((gz_lE (b := 0)).1 e)
  refine nm_r (gz_lm m f) (gx_mul ?_)
  refine ⟨vi, dne2, ?_⟩
  have ed : gx_mr (gz_l f) ρ (nI c).toNatClampNeg / gz_l d = gz_l k := by
    rw [e2]
    have e3 : gx_mr (gz_l f) ρ c = gz_l (f * v) := by
      rw [show gx_mr (gz_l f) ρ c = ρ c * gz_l f from if_pos hc, hv, gz_lm, Int.mul_comm]
    rw [e3, gz_lD (a := f * v) (b := d), hk, Int.mul_tdiv_cancel k hd]
  rw [ed]
  refine gx_tfr c hc ?_
  refine nm_r (nI_1 c) (h _ (fun j h1 h2 => ?_))
  rw [gx_fi ⟨h1, h2⟩, show gx_mr (gz_l f) ρ j = ρ j * gz_l f from if_pos h2]
theorem gx_52 {post : Int32 → SX → Prop} {J : Int64 → Int32 → Int32 → Int32 → Int32 → (Nat → Int32) → (Nat → Int64) → (Nat → Int64) → Prop} {rc lsq lsp : Int32} {C : Nat → Int32} {β ρ : Nat → Int64}
    {v d : Int} {x4 : Int64} (c : Nat) (hc : c < 3) (hv : ρ c = gz_l v) (hd : 0 < d) (hdb : d ≤ 4374) (hvb : v.natAbs ≤ 281474976710656)
    (h : ∀ f : Int, 0 < f → f ≤ d → d ∣ f * v → (∀ e : Int, 0 < e → e < f → ¬ d ∣ e * v) → wX_leastMultiple_87 post J x4 (nI c) (gz_l d) (gz_l f) rc lsq lsp C β ρ) :
    ∃ n, wX_leastMultiple_52 post J x4 (nI c) (gz_l d) rc lsq lsp C β ρ n 1 := by
  have e2 : (nI c).toNatClampNeg = c := gx_cl (by omega)
  have vi : vp_in (nI c) 3 := vp_in_nI hc (by omega)
  have dne2 : ¬ gz_l d = 0 := fun e => by
    have := (gz_lE (b := 0)).1 e
    omega
  have hr : ρ (nI c).toNatClampNeg = gz_l v := by rw [e2, hv]
  refine pk_loop (fun n i (_ : Unit) => wX_leastMultiple_52 post J x4 (nI c) (gz_l d) rc lsq lsp C β ρ n (gz_l (i : Int))) (fun i _ => 1 ≤ i ∧ ∀ e : Int, 0 < e → e < (i : Int) → ¬ d ∣ e * v) d.toNat 1 () (by omega) ?_ ?_ ?_
  · exact ⟨by omega, fun e h1 h2 => absurd h1 (by omega)⟩
  · intro n _ ⟨h1, h2⟩
    have ed : (d.toNat : Int) = d := by omega
    rw [ed] at h2 ⊢
    refine gz_Ll d d (fun _ => h d hd (Int.le_refl d) ⟨v, rfl⟩ h2) (fun hlt => absurd hlt (by omega))
  · intro n i _ hi ⟨h1, h2⟩ K
    have hm : gz_l (i : Int) * gz_l v = gz_l ((i : Int) * v) := gz_lm _ _
    have pb := gz_pm (show ((i : Int)).natAbs ≤ 4374 by omega) hvb
    have em : gz_l (i : Int) * ρ (nI c).toNatClampNeg - gz_l (i : Int) * ρ (nI c).toNatClampNeg / gz_l d * gz_l d = gz_l (((i : Int) * v).tmod d) := by
      rw [hr, hm]
      generalize (i : Int) * v = t at *
      exact gz_lR
    have tb : (((i : Int) * v).tmod d).natAbs < 4294967296 := by
      rw [Int.natAbs_tmod]
      have := Nat.mod_lt ((i : Int) * v).natAbs (show 0 < d.natAbs by omega)
      omega
    refine gz_Ll d (i : Int) (fun hle => absurd hle (by omega)) (fun hlt => ⟨vi, dne2, gz_Le (((i : Int) * v).tmod d) 0 (fun h0 => ?_) (fun h0 => ?_) em⟩)
    · exact h i (by omega) (by omega) (Int.dvd_of_tmod_eq_zero h0) h2
    · refine nm_r (show gz_l (i : Int) + 1 = gz_l ((i + 1 : Nat) : Int) from gz_la i 1) (K () ⟨by omega, fun e e1 e3 => ?_⟩)
      by_cases hei : e = (i : Int)
      · rw [hei]
        exact fun hdv => h0 (Int.tmod_eq_zero_of_dvd hdv)
      · exact h2 e e1 (by omega)
/-- one place: nothing to do, no multiple at all, or a factor -/
theorem gx_lst {post : Int32 → SX → Prop} {rc lsq lsp : Int32} {C : Nat → Int32} {β ρ : Nat → Int64} {v d m : Int} {n : Nat} (c : Nat) (hc : c < 3) (hv : ρ c = gz_l v) (hd : β (3 * c + c) = gz_l d)
    (h0d : 0 ≤ d) (hdb : d ≤ 4374) (hvb : v.natAbs ≤ 281474976710656)
    (hZ : v = 0 → wX_leastMultiple_13 post n (gz_l m) (nI (c + 1)) rc lsq lsp C β ρ)
    (hN : v ≠ 0 → d = 0 → post (-1000000) (rc, lsq, lsp, C, β, ρ))
    (hF : ∀ f k : Int, v ≠ 0 → d ≠ 0 → 0 < f → f ≤ d → f * v = k * d → (∀ e : Int, 0 < e → e < f → ¬ d ∣ e * v) →
      ∀ ρ', (∀ j, c ≤ j → j < 3 → ρ' j = ρ j * gz_l f - gz_l k * β (3 * c + j)) → wX_leastMultiple_13 post n (gz_l (m * f)) (nI (c + 1)) rc lsq lsp C β ρ') :
    wX_leastMultiple_13 post (n + 1) (gz_l m) (nI c) rc lsq lsp C β ρ := by
  have e2 : (nI c).toNatClampNeg = c := gx_cl (by omega)
  have hr : ρ (nI c).toNatClampNeg = gz_l v := by rw [e2, hv]
  have vi : vp_in (nI c) 3 := vp_in_nI hc (by omega)
  refine br_f (nI_ge (b := 3) hc (by decide)) (gx_sa hc ?_)
  rw [hd]
  refine ⟨vi, gz_Le v 0 (fun h0 => nm_r (nI_1 c) (hZ h0)) (fun hne => gz_Le d 0 (fun d0 => hN hne d0) (fun dne => ?_)) hr⟩
  refine gx_52 c hc hv (by omega) hdb hvb ?_
  intro f f1 f2 ⟨k, f3⟩ f4
  have pb := gz_pm (show f.natAbs ≤ 4374 by omega) hvb
  have fk : f * v = k * d := by rw [f3, Int.mul_comm]
  exact gx_87 c hc hv dne fk (by omega) (by omega) (fun ρ' hρ => hF f k hne dne f1 f2 fk f4 ρ' hρ)
theorem gx_kb {f v k d : Int} {N : Nat} (h : f * v = k * d) (hd : d ≠ 0) (hb : (f * v).natAbs ≤ N) : k.natAbs ≤ N := by
  rw [h, Int.mul_comm] at hb
  exact gz_le1 hb hd
theorem gx_sf {x y : Int64} {p f k z : Int} (hx : x = gz_l p) (hy : y = gz_l z) : x * gz_l f - gz_l k * y = gz_l (f * p - k * z) := by
  rw [hx, hy, gz_lm, gz_lm, gz_ls, Int.mul_comm p f]
theorem gx_lm {post : Int32 → SX → Prop} {rc lsq lsp : Int32} {C : Nat → Int32} {β ρ : Nat → Int64} {G : gz_V → Prop} {a p q b s c x y z : Int} (hb : gz_bs β a p q b s c) (hH : gz_H a p q b s c) (hB : gz_Bd a p q b s c)
    (hs : ∀ v, gz_Sp (gz_B a p q b s c) v ↔ gz_Sp G v)
    (hx : x.natAbs ≤ 100) (hy : y.natAbs ≤ 100) (hz : z.natAbs ≤ 100)
    (h0 : gz_Or G (x, y, z) 0 → ∀ ρ', post (-1000000) (rc, lsq, lsp, C, β, ρ'))
    (h1 : ∀ m, 0 < m → m ≤ 6377292 → gz_Or G (x, y, z) m → ∀ ρ', post (gz_i m) (rc, lsq, lsp, C, β, ρ')) :
    wpX_leastMultiple post (rc, lsq, lsp, C, β, ρ) (gz_i x) (gz_i y) (gz_i z) := by
  obtain ⟨b0, b1, b2, b3, b4, b5, b6, b7, b8⟩ := hb
  obtain ⟨k1, k2, k3, k4, k5, k6⟩ := hB
  obtain ⟨hZ, g1, g2, g3, _, _⟩ := hH
  have om0 : gz_Om G (x, y, z) 1 (gz_pl (gz_pl (gz_pl gz_N (0, 0, c)) (0, b, s)) (a, p, q)) (x, y, z) := fun t =>
    ((hs _).symm.trans (gz_BP _)).trans (gz_Om0 _ _ t)
  have z0 : (a, p, q).1 = 0 → (a, p, q) = ((0, 0, 0) : gz_V) := fun h => gz_ext h (hZ.1 h).1 (hZ.1 h).2
  have z1 : ((0, b, s) : gz_V).2.1 = 0 → (0, b, s) = ((0, 0, 0) : gz_V) := fun h => gz_ext rfl h (hZ.2 h)
  have z2 : ((0, 0, c) : gz_V).2.2 = 0 → (0, 0, c) = ((0, 0, 0) : gz_V) := fun h => gz_ext rfl rfl h
  /- the third place -/
  have S2 : ∀ (m zz : Int) (ρ2 : Nat → Int64), 0 < m → m ≤ 1458 → zz.natAbs ≤ 281474976710656 → ρ2 2 = gz_l zz → gz_Om G (x, y, z) m (gz_pl gz_N (0, 0, c)) (0, 0, zz) →
      wX_leastMultiple_13 post 2 (gz_l m) (nI 2) rc lsq lsp C β ρ2 := by
    intro m zz ρ2 hm1 hm2 hzz hr om
    refine gx_lst 2 (by decide) hr b8 g3 k3 hzz (fun h => ?_) (fun hn hd => ?_) (fun f k hn hd f1 f2 f3 f4 ρ3 e3 => ?_)
    · have om2 := gz_Omz (fun u => u.2.2) (fun _ _ _ => rfl) (fun _ _ => rfl) gz_f3 z2 om h
      have o := gz_Om3 om2 (by omega) (by rw [h])
      refine br_t (by decide) ?_
      rw [gz_li]
      exact h1 m hm1 (by omega) o _
    · exact h0 (gz_Omn (fun u => u.2.2) (fun _ _ _ => rfl) (fun _ _ => rfl) gz_f3 hd om hn) _
    · have om2 := gz_Oms (k := k) (fun u => u.2.2) (fun _ _ _ => rfl) (fun _ _ => rfl) gz_f3 hd om f1 f3 f4
      have mf : m * f ≤ 1458 * 4374 := Int.mul_le_mul hm2 (by omega) (by omega) (by omega)
      have mp : 0 < m * f := Int.mul_pos hm1 f1
      have o := gz_Om3 om2 (by omega) (by apply gz_ext <;> simp only [gz_ad, gz_sm] <;> grind)
      refine br_t (by decide) ?_
      rw [gz_li]
      exact h1 (m * f) mp (by omega) o _
  /- the second place -/
  have S1 : ∀ (m yy zz : Int) (ρ1 : Nat → Int64), 0 < m → m ≤ 9 → yy.natAbs ≤ 146700 → zz.natAbs ≤ 23766300 → ρ1 1 = gz_l yy → ρ1 2 = gz_l zz → gz_Om G (x, y, z) m (gz_pl (gz_pl gz_N (0, 0, c)) (0, b, s)) (0, yy, zz) →
      wX_leastMultiple_13 post 3 (gz_l m) (nI 1) rc lsq lsp C β ρ1 := by
    intro m yy zz ρ1 hm1 hm2 hyy hzz hr1 hr2 om
    refine gx_lst 1 (by decide) hr1 b4 g2 (by omega) (by omega) (fun h => ?_) (fun hn hd => ?_) (fun f k hn hd f1 f2 f3 f4 ρ3 e3 => ?_)
    · have om2 := gz_Omz (fun u => u.2.1) (fun _ _ _ => rfl) (fun _ _ => rfl) gz_f2 z1 om h
      rw [h] at om2
      exact S2 m zz ρ1 hm1 (by omega) (by omega) hr2 om2
    · exact h0 (gz_Omn (fun u => u.2.1) (fun _ _ _ => rfl) (fun _ _ => rfl) gz_f2 hd om hn) _
    · have om2 := gz_Oms (k := k) (fun u => u.2.1) (fun _ _ _ => rfl) (fun _ _ => rfl) gz_f2 hd om f1 f3 f4
      have mf : m * f ≤ 9 * 162 := Int.mul_le_mul hm2 (by omega) (by omega) (by omega)
      have mp : 0 < m * f := Int.mul_pos hm1 f1
      have fy := gz_pm (show f.natAbs ≤ 162 by omega) hyy
      have fz := gz_pm (show f.natAbs ≤ 162 by omega) hzz
      have kb := gx_kb f3 hd fy
      have ks := gz_pm kb k6
      have ev : gz_ad (gz_sm f (0, yy, zz)) (-k) (0, b, s) = (0, 0, f * zz - k * s) := by apply gz_ext <;> simp only [gz_ad, gz_sm] <;> grind
      rw [ev] at om2
      refine S2 (m * f) (f * zz - k * s) ρ3 mp (by omega) ?_ ((e3 2 (by decide) (by decide)).trans (gx_sf hr2 b5)) om2
      generalize f * zz = t1 at *
      generalize k * s = t2 at *
      omega
  unfold wpX_leastMultiple
  dsimp only
  refine nm_e (nm_e (nm_e ⟨4, ?_⟩))
  obtain ⟨r0, r1, r2⟩ := gx_pr3 (ρ := ρ) (x := x) (y := y) (z := z) (by omega) (by omega) (by omega)
  generalize vp_updL (vp_updL (vp_updL ρ 0 (gz_i x).toInt64) 1 (gz_i y).toInt64) 2 (gz_i z).toInt64 = ρ0 at r0 r1 r2
  refine gx_lst (m := 1) 0 (by decide) r0 b0 g1 (by omega) (by omega) (fun h => ?_) (fun hn hd => ?_) (fun f k hn hd f1 f2 f3 f4 ρ3 e3 => ?_)
  · have om2 := gz_Omz (fun u => u.1) (fun _ _ _ => rfl) (fun _ _ => rfl) gz_f1 z0 om0 h
    have om3 : gz_Om G (x, y, z) 1 (gz_pl (gz_pl gz_N (0, 0, c)) (0, b, s)) (0, y, z) := by
      have e : ((0, y, z) : gz_V) = (x, y, z) := gz_ext h.symm rfl rfl
      rw [e]
      exact om2
    exact S1 1 y z ρ0 (by omega) (by omega) (by omega) (by omega) r1 r2 om3
  · exact h0 (gz_Omn (fun u => u.1) (fun _ _ _ => rfl) (fun _ _ => rfl) gz_f1 hd om0 hn) _
  · have om2 := gz_Oms (k := k) (fun u => u.1) (fun _ _ _ => rfl) (fun _ _ => rfl) gz_f1 hd om0 f1 f3 f4
    have fx := gz_pm (show f.natAbs ≤ 9 by omega) hx
    have fy := gz_pm (show f.natAbs ≤ 9 by omega) hy
    have fz := gz_pm (show f.natAbs ≤ 9 by omega) hz
    have kb := gx_kb f3 hd fx
    have kp := gz_pm kb k4
    have kq := gz_pm kb k5
    have ev : gz_ad (gz_sm f (x, y, z)) (-k) (a, p, q) = (0, f * y - k * p, f * z - k * q) := by apply gz_ext <;> simp only [gz_ad, gz_sm] <;> grind
    rw [ev] at om2
    have mf : 0 < 1 * f ∧ 1 * f ≤ 9 := by omega
    refine S1 (1 * f) (f * y - k * p) (f * z - k * q) ρ3 mf.1 mf.2 ?_ ?_ ((e3 1 (by decide) (by decide)).trans (gx_sf r1 b1)) ((e3 2 (by decide) (by decide)).trans (gx_sf r2 b2)) om2
    · generalize f * y = t1 at *
      generalize k * p = t2 at *
      omega
    · generalize f * z = t1 at *
      generalize k * q = t2 at *
      omega
end
section
/-! the common divisor of two ints, on both sides -/
theorem gz_ab1 {a : Int} (h : 0 ≤ a) : gz_i a = nI a.natAbs := by
  rw [← gz_iN]
  exact gz_iq (by omega)
theorem gz_ab2 {a : Int} (h : a < 0) : -gz_i a = nI a.natAbs := by
  rw [gz_ing, ← gz_iN]
  exact gz_iq (by omega)
theorem gx_g25 {post : Int32 → Prop} (g h : Nat) (hg : g < 2147483648) (hh : h < 2147483648) (hp : post (nI (Nat.gcd g h))) : ∃ n, wX_gcd_25 post n (nI g) (nI h) 0 := by
  refine gz_euG (σ := Nat × Nat) (fun n i s => wX_gcd_25 post n (nI s.1) (nI s.2) (nI i)) (fun s => s.1) (fun s => s.2)
    (fun s => s.1 < 2147483648 ∧ s.2 < 2147483648 ∧ Nat.gcd s.1 s.2 = Nat.gcd g h) ?_ ?_ (g, h) ⟨hg, hh, rfl⟩ (show g < 4294967296 by omega) (show h < 4294967296 by omega)
  · intro n i s hi ⟨h1, h2, h3⟩ h0
    rw [h0, Nat.gcd_zero_right] at h3
    have hq : post (nI s.1) := by rw [h3]; exact hp
    refine pk_le 1000 i (fun _ => hq) (fun _ => br_t ?_ hq)
    rw [h0]
    rfl
  · intro n i s hi ⟨h1, h2, h3⟩ h0
    have hm := Nat.mod_lt s.1 (show 0 < s.2 by omega)
    refine ⟨(s.2, s.1 % s.2), ⟨h2, ?_, ?_⟩, rfl, rfl, fun hW => ?_⟩
    · show s.1 % s.2 < 2147483648
      omega
    · exact (gz_gst s.1 s.2).trans h3
    · have hne : ¬ nI s.2 = 0 := nI_ne0 (by omega) h2
      exact br_f (nI_ge (b := 1000) hi (by decide)) (br_f hne ⟨hne, nm_r (pk_rem h1 (by omega) h2) (nm_r (nI_1 i) hW)⟩)
theorem gx_gcd {post : Int32 → Prop} {a b : Int} (ha : a.natAbs < 2147483648) (hb : b.natAbs < 2147483648) (h : post (gz_i (Int.gcd a b))) : wpX_gcd post (gz_i a) (gz_i b) := by
  have hq : post (nI (Nat.gcd a.natAbs b.natAbs)) := by rw [← gz_iN]; exact h
  have k : ∀ z0 : Int32, z0 = nI a.natAbs → wX_gcd_10 post (gz_i b) z0 := by
    intro z0 e
    rw [e]
    refine gz_bl 0 b (fun h0 => ?_) (fun h0 => ?_)
    · rw [gz_ab1 h0]
      exact gx_g25 _ _ ha hb hq
    · exact nm_r (gz_ab2 h0) (gx_g25 _ _ ha hb hq)
  refine gz_bl 0 a (fun h0 => k _ (gz_ab1 h0)) (fun h0 => k _ (gz_ab2 h0))
theorem gy_g23 {post : Int32 → Prop} {fc ff fl : Int32} {D : Nat → Int32} (g h : Nat) (hg : g < 2147483648) (hh : h < 2147483648) (hp : post (nI (Nat.gcd g h))) : ∃ n, wY_gcd_23 post fc ff fl D n (nI g) (nI h) := by
  refine gz_euG (σ := Nat × Nat) (fun n i s => wY_gcd_23 post fc ff fl D n (nI s.1) (nI s.2)) (fun s => s.1) (fun s => s.2)
    (fun s => s.1 < 2147483648 ∧ s.2 < 2147483648 ∧ Nat.gcd s.1 s.2 = Nat.gcd g h) ?_ ?_ (g, h) ⟨hg, hh, rfl⟩ (show g < 4294967296 by omega) (show h < 4294967296 by omega)
  · intro n i s hi ⟨h1, h2, h3⟩ h0
    rw [h0, Nat.gcd_zero_right] at h3
    have hq : post (nI s.1) := by rw [h3]; exact hp
    refine br_t ?_ hq
    rw [h0]
    rfl
  · intro n i s hi ⟨h1, h2, h3⟩ h0
    have hm := Nat.mod_lt s.1 (show 0 < s.2 by omega)
    refine ⟨(s.2, s.1 % s.2), ⟨h2, ?_, ?_⟩, rfl, rfl, fun hW => ?_⟩
    · show s.1 % s.2 < 2147483648
      omega
    · exact (gz_gst s.1 s.2).trans h3
    · have hne : ¬ nI s.2 = 0 := nI_ne0 (by omega) h2
      exact br_f hne ⟨hne, nm_r (pk_rem h1 (by omega) h2) hW⟩
theorem gy_gcd {post : Int32 → Prop} {fc ff fl : Int32} {D : Nat → Int32} {a b : Int} (ha : a.natAbs < 2147483648) (hb : b.natAbs < 2147483648) (h : post (gz_i (Int.gcd a b))) :
    wpY_gcd post (fc, ff, fl, D) (gz_i a) (gz_i b) := by
  have hq : post (nI (Nat.gcd a.natAbs b.natAbs)) := by rw [← gz_iN]; exact h
  have k : ∀ z0 : Int32, z0 = nI a.natAbs → wY_gcd_10 post (gz_i b) z0 fc ff fl D := by
    intro z0 e
    rw [e]
    refine gz_bl 0 b (fun h0 => ?_) (fun h0 => ?_)
    · rw [gz_ab1 h0]
      exact gy_g23 _ _ ha hb hq
    · exact nm_r (gz_ab2 h0) (gy_g23 _ _ ha hb hq)
  refine gz_bl 0 a (fun h0 => k _ (gz_ab1 h0)) (fun h0 => k _ (gz_ab2 h0))
end
section
/-! Y: minors and their common divisors -/
def gz_W (D : Nat → Int32) : Nat → Int := fun j => (D j).toInt
theorem gz_WD (D : Nat → Int32) (j : Nat) : D j = gz_i (gz_W D j) := (gz_iX (D j)).symm
def gz_bit (m : Int32) (r : Nat) : Prop := ((m >>> (nI r &&& 31)) &&& 1) = 1
theorem gy_mi {post : Int32 → Prop} {fc ff fl : Int32} {D : Nat → Int32} (r s c d : Nat) (hr : r < 5) (hs : s < 5) (hc : c < 3) (hd : d < 3)
    (h : post (gz_i (gz_W D (3 * r + c) * gz_W D (3 * s + d) - gz_W D (3 * r + d) * gz_W D (3 * s + c)))) : wpY_minor post (fc, ff, fl, D) (nI r) (nI s) (nI c) (nI d) := by
  refine And.intro (gx_vi3 (by omega) (by omega)) ⟨gx_vi3 (by omega) (by omega), gx_vi3 (by omega) (by omega), gx_vi3 (by omega) (by omega), ?_⟩
  rw [gx_ad3 (a := r) (b := c) (by omega), gx_ad3 (a := s) (b := d) (by omega), gx_ad3 (a := r) (b := d) (by omega), gx_ad3 (a := s) (b := c) (by omega), gz_WD D (3 * r + c), gz_WD D (3 * s + d), gz_WD D (3 * r + d), gz_WD D (3 * s + c), gz_im, gz_im, gz_is]
  exact h
theorem gy_xy {post : Int32 → Prop} {fc ff fl : Int32} {D : Nat → Int32} {r s : Nat} (hr : r < 5) (hs : s < 5) (h : post (gz_i (gz_xy (gz_ro (gz_W D) r) (gz_ro (gz_W D) s)))) : wpY_minor post (fc, ff, fl, D) (nI r) (nI s) 0 1 :=
  gy_mi r s 0 1 hr hs (by decide) (by decide) h
theorem gy_xz {post : Int32 → Prop} {fc ff fl : Int32} {D : Nat → Int32} {r s : Nat} (hr : r < 5) (hs : s < 5) (h : post (gz_i (gz_xz (gz_ro (gz_W D) r) (gz_ro (gz_W D) s)))) : wpY_minor post (fc, ff, fl, D) (nI r) (nI s) 0 2 :=
  gy_mi r s 0 2 hr hs (by decide) (by decide) h
theorem gy_yz {post : Int32 → Prop} {fc ff fl : Int32} {D : Nat → Int32} {r s : Nat} (hr : r < 5) (hs : s < 5) (h : post (gz_i (gz_yz (gz_ro (gz_W D) r) (gz_ro (gz_W D) s)))) : wpY_minor post (fc, ff, fl, D) (nI r) (nI s) 1 2 :=
  gy_mi r s 1 2 hr hs (by decide) (by decide) h
theorem gx_cl3 {a : Nat} (h : 3 * a < 2147483648) : (3 * nI a).toNatClampNeg = 3 * a := by
  rw [gx_3c]
  exact gx_cl h
theorem gx_v3 {a N : Nat} (h : 3 * a < N) (hN : N < 2147483648) : vp_in (3 * nI a) N := by
  rw [gx_3c]
  exact vp_in_nI h hN
theorem gx_ad31 {a : Nat} (h : 3 * a + 1 < 2147483648) : (3 * nI a + 1).toNatClampNeg = 3 * a + 1 := gx_ad3 (b := 1) h
theorem gx_ad32 {a : Nat} (h : 3 * a + 2 < 2147483648) : (3 * nI a + 2).toNatClampNeg = 3 * a + 2 := gx_ad3 (b := 2) h
theorem gx_vi31 {a N : Nat} (h : 3 * a + 1 < N) (hN : N < 2147483648) : vp_in (3 * nI a + 1) N := gx_vi3 (b := 1) h hN
theorem gx_vi32 {a N : Nat} (h : 3 * a + 2 < N) (hN : N < 2147483648) : vp_in (3 * nI a + 2) N := gx_vi3 (b := 2) h hN
theorem gy_dt {post : Int32 → Prop} {fc ff fl : Int32} {D : Nat → Int32} {r s t : Nat} (hr : r < 5) (hs : s < 5) (ht : t < 5)
    (h : post (gz_i (gz_dt (gz_ro (gz_W D) r) (gz_ro (gz_W D) s) (gz_ro (gz_W D) t)))) : wpY_determinant post (fc, ff, fl, D) (nI r) (nI s) (nI t) := by
  unfold wpY_determinant
  dsimp only
  refine gy_yz hs ht (gy_xz hs ht (gy_xy hs ht ?_))
  refine ⟨gx_v3 (by omega) (by omega), gx_vi31 (by omega) (by omega), gx_vi32 (by omega) (by omega), ?_⟩
  rw [gx_cl3 (a := r) (by omega), gx_ad31 (a := r) (by omega), gx_ad32 (a := r) (by omega), gz_WD D (3 * r), gz_WD D (3 * r + 1), gz_WD D (3 * r + 2), gz_im, gz_im, gz_im, gz_is, gz_ia]
  exact h
/-- small rows: 9 in the first four, 5000 in the last -/
def gy_sm (m : Int32) (D : Nat → Int32) : Prop := ∀ r, r < 5 → gz_bit m r →
  (gz_ro (gz_W D) r).1.natAbs ≤ 5000 ∧ (gz_ro (gz_W D) r).2.1.natAbs ≤ 5000 ∧ (gz_ro (gz_W D) r).2.2.natAbs ≤ 5000 ∧
  (r < 4 → (gz_ro (gz_W D) r).1.natAbs ≤ 9 ∧ (gz_ro (gz_W D) r).2.1.natAbs ≤ 9 ∧ (gz_ro (gz_W D) r).2.2.natAbs ≤ 9)
theorem gy_s2 {m : Int32} {D : Nat → Int32} {r s : Nat} (h : gy_sm m D) (hr : r < 5) (hs : s < r) (br : gz_bit m r) (bs : gz_bit m s) :
    (gz_xy (gz_ro (gz_W D) r) (gz_ro (gz_W D) s)).natAbs ≤ 90000 ∧ (gz_xz (gz_ro (gz_W D) r) (gz_ro (gz_W D) s)).natAbs ≤ 90000 ∧ (gz_yz (gz_ro (gz_W D) r) (gz_ro (gz_W D) s)).natAbs ≤ 90000 := by
  obtain ⟨u1, u2, u3, _⟩ := h r hr br
  obtain ⟨_, _, _, v⟩ := h s (by omega) bs
  obtain ⟨v1, v2, v3⟩ := v (by omega)
  exact ⟨gz_m2 u1 v2 u2 v1, gz_m2 u1 v3 u3 v1, gz_m2 u2 v3 u3 v2⟩
theorem gy_s3 {m : Int32} {D : Nat → Int32} {r s t : Nat} (h : gy_sm m D) (hr : r < 5) (hs : s < r) (ht : t < s) (br : gz_bit m r) (bs : gz_bit m s) (bt : gz_bit m t) :
    (gz_dt (gz_ro (gz_W D) r) (gz_ro (gz_W D) s) (gz_ro (gz_W D) t)).natAbs ≤ 2430000 := by
  obtain ⟨u1, u2, u3, _⟩ := h r hr br
  obtain ⟨_, _, _, v⟩ := h s (by omega) bs
  obtain ⟨v1, v2, v3⟩ := v (by omega)
  obtain ⟨_, _, _, w⟩ := h t (by omega) bt
  obtain ⟨w1, w2, w3⟩ := w (by omega)
  have a1 : (gz_xy (gz_ro (gz_W D) s) (gz_ro (gz_W D) t)).natAbs ≤ 162 := gz_m2 v1 w2 v2 w1
  have a2 : (gz_xz (gz_ro (gz_W D) s) (gz_ro (gz_W D) t)).natAbs ≤ 162 := gz_m2 v1 w3 v3 w1
  have a3 : (gz_yz (gz_ro (gz_W D) s) (gz_ro (gz_W D) t)).natAbs ≤ 162 := gz_m2 v2 w3 v3 w2
  exact gz_d3 u1 u2 u3 a3 a2 a1
theorem gz_nng {a b : Int} : ((Int.gcd a b : Int)).natAbs = Int.gcd a b := Int.natAbs_natCast _
theorem gz_dd (d : Int) : d ∣ 0 ↔ True := ⟨fun _ => trivial, fun _ => Int.dvd_zero d⟩
theorem gy_pd {post : Int32 → Prop} {fc ff fl m : Int32} {D : Nat → Int32} {r s cols : Nat} (hsm : gy_sm m D) (hr : r < 5) (hs : s < r) (br : gz_bit m r) (bs : gz_bit m s) (hc : 1 ≤ cols) (hc3 : cols ≤ 3)
    (h : ∀ g : Int, g.natAbs ≤ 90000 → (∀ d, d ∣ g ↔ d ∣ gz_xy (gz_pj cols (gz_ro (gz_W D) r)) (gz_pj cols (gz_ro (gz_W D) s)) ∧ d ∣ gz_xz (gz_pj cols (gz_ro (gz_W D) r)) (gz_pj cols (gz_ro (gz_W D) s)) ∧ d ∣ gz_yz (gz_pj cols (gz_ro (gz_W D) r)) (gz_pj cols (gz_ro (gz_W D) s))) → post (gz_i g)) :
    wpY_pairDivisor post (fc, ff, fl, D) (nI r) (nI s) (nI cols) := by
  obtain ⟨a1, a2, a3⟩ := gy_s2 hsm hr hs br bs
  have h5 : s < 5 := by omega
  have hcs : cols = 1 ∨ cols = 2 ∨ cols = 3 := by omega
  rcases hcs with rfl | rfl | rfl
  · refine br_t (by decide) (br_t (by decide) (h 0 (by decide) (fun d => ?_)))
    simp [gz_xy, gz_xz, gz_yz, gz_pj]
  · refine br_f (by decide) (gy_xy hr h5 (br_t (by decide) (h _ a1 (fun d => ?_))))
    simp [gz_xy, gz_xz, gz_yz, gz_pj]
  · rw [gz_pj3, gz_pj3] at h
    refine br_f (by decide) (gy_xy hr h5 (br_f (by decide) (gy_xz hr h5 (gy_yz hr h5 (gy_gcd (by omega) (by omega) (gy_gcd ?_ (by omega) (h _ ?_ (fun d => ?_))))))))
    · rw [gz_nng]
      have := gz_gle a1 a2
      omega
    · rw [gz_nng]
      exact gz_gle (by rw [gz_nng]; exact gz_gle a1 a2) a3
    · rw [Int.dvd_coe_gcd_iff, Int.dvd_coe_gcd_iff, and_assoc]
theorem gy_td {post : Int32 → Prop} {fc ff fl m : Int32} {D : Nat → Int32} {r s : Nat} (hsm : gy_sm m D) (hr : r < 5) (hs : s < r) (br : gz_bit m r) (bs : gz_bit m s)
    (h : ∀ g : Int, g.natAbs ≤ 2430000 → (∀ d, d ∣ g ↔ ∀ t, t < s → gz_bit m t → d ∣ gz_dt (gz_ro (gz_W D) r) (gz_ro (gz_W D) s) (gz_ro (gz_W D) t)) → post (gz_i g)) :
    wpY_tripleDivisor post (fc, ff, fl, D) (nI r) (nI s) m := by
  refine loop_0 (fun n i (g : Int) => wY_tripleDivisor_6 post (nI r) (nI s) m fc ff fl D n (gz_i g) (nI i))
    (fun i g => g.natAbs ≤ 2430000 ∧ ∀ d, d ∣ g ↔ ∀ t, t < i → gz_bit m t → d ∣ gz_dt (gz_ro (gz_W D) r) (gz_ro (gz_W D) s) (gz_ro (gz_W D) t)) s 0
    ⟨by decide, fun d => ⟨fun _ t ht => absurd ht (by omega), fun _ => Int.dvd_zero d⟩⟩ ?_ ?_
  · intro n g ⟨h1, h2⟩
    exact br_t (nI_le (Nat.le_refl s) (by omega)) (h g h1 h2)
  · intro n i g hi ⟨h1, h2⟩ K
    refine br_f (nI_ge hi (by omega)) (br_c (fun hb => ?_) (fun hb => ?_))
    · have a := gy_s3 hsm hr hs hi br bs hb
      refine gy_dt hr (by omega) (by omega) (gy_gcd (by omega) (by omega) (nm_r (nI_1 i) (K _ ⟨?_, fun d => ?_⟩)))
      · rw [gz_nng]
        exact gz_gle h1 a
      · rw [Int.dvd_coe_gcd_iff, h2]
        constructor
        · intro ⟨x1, x2⟩ t ht hbt
          by_cases e : t = i
          · subst e; exact x2
          · exact x1 t (by omega) hbt
        · intro x
          exact ⟨fun t ht hbt => x t (by omega) hbt, x i (by omega) hb⟩
    · refine nm_r (nI_1 i) (K g ⟨h1, fun d => (h2 d).trans ⟨fun x t ht hbt => ?_, fun x t ht hbt => x t (by omega) hbt⟩⟩)
      by_cases e : t = i
      · subst e; exact absurd hbt hb
      · exact x t (by omega) hbt
end
section
/-! Y: D(k) of a set of rows in the first columns; rank; order -/
def gy_row (cols : Nat) (D : Nat → Int32) : Nat → gz_V := fun r => gz_pj cols (gz_ro (gz_W D) r)
/-- what the inner turn s of row r asks of a divisor d -/
def gy_Q (k cols : Nat) (m : Int32) (D : Nat → Int32) (d : Int) (r s : Nat) : Prop :=
  match k with
  | 1 => d ∣ gz_W D (3 * r + s)
  | 2 => gz_bit m s → d ∣ gz_xy (gy_row cols D r) (gy_row cols D s) ∧ d ∣ gz_xz (gy_row cols D r) (gy_row cols D s) ∧ d ∣ gz_yz (gy_row cols D r) (gy_row cols D s)
  | _ => gz_bit m s → ∀ t, t < s → gz_bit m t → d ∣ gz_dt (gy_row cols D r) (gy_row cols D s) (gy_row cols D t)
def gy_lim (k cols r : Nat) : Nat := if k = 1 then cols else r
theorem gy_dtz {cols : Nat} {D : Nat → Int32} {r s t : Nat} (h : cols ≤ 2) : gz_dt (gy_row cols D r) (gy_row cols D s) (gy_row cols D t) = 0 := by
  have h3 : ¬ 3 ≤ cols := by omega
  simp [gz_dt, gz_xy, gz_xz, gz_yz, gy_row, gz_pj, h3]
theorem gy_123 {post : Int32 → Prop} {J12 J34 : Int32 → Int32 → Prop} {x1 x2 x3 x5 x6 fc ff fl : Int32} {D : Nat → Int32} {s : Nat} {g m : Int} (hg : g.natAbs ≤ 2430000) (hm : m.natAbs ≤ 2430000)
    (h : J34 (gz_i (Int.gcd g m)) (nI (s + 1))) : wY_divisorOf_123 post J12 J34 x1 x2 x3 (gz_i g) x5 x6 (nI s) (gz_i m) fc ff fl D := by
  unfold wY_divisorOf_123
  exact gy_gcd (by omega) (by omega) (nm_r (nI_1 s) h)
theorem gy_34 {post : Int32 → Prop} {J : Int32 → Int32 → Prop} {fc ff fl m : Int32} {D : Nat → Int32} {k cols r : Nat} {g0 : Int} (hsm : gy_sm m D) (hk : k = 1 ∨ k = 2 ∨ k = 3) (hc : 1 ≤ cols) (hc3 : cols ≤ 3) (hr : r < 5)
    (hg : g0.natAbs ≤ 2430000)
    (h : ∀ g : Int, 0 ≤ g ∨ g = g0 → g.natAbs ≤ 2430000 → (∀ d, d ∣ g ↔ d ∣ g0 ∧ (gz_bit m r → ∀ s, s < gy_lim k cols r → gy_Q k cols m D d r s)) → J (gz_i g) (nI (r + 1))) :
    ∃ n, wY_divisorOf_34 post J (nI k) m (nI cols) (nI r) (nI (gy_lim k cols r)) fc ff fl D n (gz_i g0) 0 := by
  have hL : gy_lim k cols r ≤ 4 := by
    unfold gy_lim
    split <;> omega
  by_cases br : gz_bit m r
  · refine loop_0 (fun n s (g : Int) => wY_divisorOf_34 post J (nI k) m (nI cols) (nI r) (nI (gy_lim k cols r)) fc ff fl D n (gz_i g) (nI s))
      (fun s g => (0 ≤ g ∨ g = g0) ∧ g.natAbs ≤ 2430000 ∧ ∀ d, d ∣ g ↔ d ∣ g0 ∧ ∀ s', s' < s → gy_Q k cols m D d r s') (gy_lim k cols r) g0
      ⟨Or.inr rfl, hg, fun d => ⟨fun x => ⟨x, fun s hs => absurd hs (by omega)⟩, fun x => x.1⟩⟩ ?_ ?_
    · intro n g ⟨h1, h2, h3⟩
      exact br_t (nI_le (Nat.le_refl _) (by omega)) (nm_r (nI_1 r) (h g h1 h2 (fun d => (h3 d).trans ⟨fun x => ⟨x.1, fun _ => x.2⟩, fun x => ⟨x.1, x.2 br⟩⟩)))
    · intro n s g hs ⟨h1, h2, h3⟩ K
      have key : ∀ v : Int, v.natAbs ≤ 2430000 → (∀ d, d ∣ v ↔ gy_Q k cols m D d r s) →
          wY_divisorOf_34 post J (nI k) m (nI cols) (nI r) (nI (gy_lim k cols r)) fc ff fl D n (gz_i (Int.gcd g v)) (nI (s + 1)) := by
        intro v hv hq
        refine K (Int.gcd g v : Int) ⟨Or.inl (Int.natCast_nonneg _), by rw [gz_nng]; exact gz_gle h2 hv, fun d => ?_⟩
        rw [Int.dvd_coe_gcd_iff, h3, hq]
        constructor
        · intro ⟨⟨x1, x2⟩, x3⟩
          refine ⟨x1, fun s' hs' => ?_⟩
          by_cases e : s' = s
          · subst e; exact x3
          · exact x2 s' (by omega)
        · intro ⟨x1, x2⟩
          exact ⟨⟨x1, fun s' hs' => x2 s' (by omega)⟩, x2 s (by omega)⟩
      refine br_f (nI_ge hs (by omega)) (br_t br ?_)
      rcases hk with rfl | rfl | rfl
      · have hsc : s < cols := by
          have : gy_lim 1 cols r = cols := if_pos rfl
          omega
        have e1 : (3 * nI r + nI s).toNatClampNeg = 3 * r + s := gx_ad3 (by omega)
        refine br_t (by decide) ⟨gx_vi3 (by omega) (by omega), nm_r (e' := gz_i (gz_W D (3 * r + s))) (by rw [e1]; exact gz_WD D _) ?_⟩
        have hb : (gz_W D (3 * r + s)).natAbs ≤ 5000 := by
          obtain ⟨u1, u2, u3, _⟩ := hsm r hr br
          have hs3 : s = 0 ∨ s = 1 ∨ s = 2 := by omega
          rcases hs3 with rfl | rfl | rfl
          · exact u1
          · exact u2
          · exact u3
        exact gy_123 h2 (by omega) (key _ (by omega) (fun d => Iff.rfl))
      · have hsr : s < r := hs
        refine br_f (by decide) (br_c (fun bs => ?_) (fun bs => ?_))
        · refine br_t (by decide) (gy_pd hsm hr hsr br bs hc hc3 ?_)
          intro v hv hq
          exact gy_123 h2 (by omega) (key v (by omega) (fun d => (hq d).trans ⟨fun x _ => x, fun x => x bs⟩))
        · exact gy_123 (m := 0) h2 (by decide) (key 0 (by decide) (fun d => ⟨fun _ x => absurd x bs, fun _ => Int.dvd_zero d⟩))
      · have hsr : s < r := hs
        refine br_f (by decide) (br_c (fun bs => ?_) (fun bs => ?_))
        · refine br_f (by decide) (pk_le cols 2 (fun hle => ?_) (fun hlt => ?_))
          · exact gy_123 (m := 0) h2 (by decide) (key 0 (by decide) (fun d => ⟨fun _ _ t _ _ => by rw [gy_dtz hle]; exact Int.dvd_zero d, fun _ => Int.dvd_zero d⟩))
          · have e3 : cols = 3 := by omega
            subst e3
            refine gy_td hsm hr hsr br bs ?_
            intro v hv hq
            refine gy_123 h2 hv (key v hv (fun d => (hq d).trans ?_))
            show _ ↔ (gz_bit m s → ∀ t, t < s → gz_bit m t → d ∣ gz_dt (gy_row 3 D r) (gy_row 3 D s) (gy_row 3 D t))
            unfold gy_row
            simp only [gz_pj3]
            exact ⟨fun x _ => x, fun x => x bs⟩
        · exact gy_123 (m := 0) h2 (by decide) (key 0 (by decide) (fun d => ⟨fun _ x => absurd x bs, fun _ => Int.dvd_zero d⟩))
  · refine ⟨1, ?_⟩
    have hJ := h g0 (Or.inr rfl) hg (fun d => ⟨fun x => ⟨x, fun y => absurd y br⟩, fun x => x.1⟩)
    exact pk_le (gy_lim k cols r) 0 (fun _ => nm_r (nI_1 r) hJ) (fun _ => br_f br (nm_r (nI_1 r) hJ))
theorem gy_q1 {cols : Nat} {D : Nat → Int32} {d : Int} {r : Nat} (hc : 1 ≤ cols) (hc3 : cols ≤ 3) : (∀ s, s < cols → d ∣ gz_W D (3 * r + s)) ↔ d ∣ (gy_row cols D r).1 ∧ d ∣ (gy_row cols D r).2.1 ∧ d ∣ (gy_row cols D r).2.2 := by
  have hcs : cols = 1 ∨ cols = 2 ∨ cols = 3 := by omega
  rcases hcs with rfl | rfl | rfl
  · constructor
    · intro h
      exact ⟨h 0 (by decide), Int.dvd_zero d, Int.dvd_zero d⟩
    · intro ⟨h, _, _⟩ s hs
      have e : s = 0 := by omega
      subst e
      exact h
  · constructor
    · intro h
      exact ⟨h 0 (by decide), h 1 (by decide), Int.dvd_zero d⟩
    · intro ⟨h1, h2, _⟩ s hs
      have e : s = 0 ∨ s = 1 := by omega
      rcases e with rfl | rfl
      · exact h1
      · exact h2
  · constructor
    · intro h
      exact ⟨h 0 (by decide), h 1 (by decide), h 2 (by decide)⟩
    · intro ⟨h1, h2, h3⟩ s hs
      have e : s = 0 ∨ s = 1 ∨ s = 2 := by omega
      rcases e with rfl | rfl | rfl
      · exact h1
      · exact h2
      · exact h3
theorem gy_M {k cols : Nat} {m : Int32} {D : Nat → Int32} {d : Int} (hk : k = 1 ∨ k = 2 ∨ k = 3) (hc : 1 ≤ cols) (hc3 : cols ≤ 3) :
    (∀ r, r < 5 → gz_bit m r → ∀ s, s < gy_lim k cols r → gy_Q k cols m D d r s) ↔ gz_M k (gz_G 5 (gz_bit m) (gy_row cols D)) (fun x => d ∣ x) := by
  rcases hk with rfl | rfl | rfl
  · rw [gz_M1o]
    exact ⟨fun h r hr hb => (gy_q1 hc hc3).1 (h r hr hb), fun h r hr hb => (gy_q1 hc hc3).2 (h r hr hb)⟩
  · rw [gz_M2o]
    exact ⟨fun h r hr hb s hs hbs => h r hr hb s hs hbs, fun h r hr hb s hs hbs => h r hr hb s hs hbs⟩
  · rw [gz_M3o]
    exact ⟨fun h r hr hb s hs hbs t ht hbt => h r hr hb s hs hbs t ht hbt, fun h r hr hb s hs hbs t ht hbt => h r hr hb s hs hbs t ht hbt⟩
theorem gy_div {post : Int32 → Prop} {fc ff fl m : Int32} {D : Nat → Int32} {k cols : Nat} (hsm : gy_sm m D) (hk : k ≤ 3) (hc : 1 ≤ cols) (hc3 : cols ≤ 3)
    (h : ∀ g : Int, 0 ≤ g → g ≤ 2430000 → gz_D k (gz_G 5 (gz_bit m) (gy_row cols D)) g → post (gz_i g)) : wpY_divisorOf post (fc, ff, fl, D) (nI k) m (nI cols) := by
  refine pk_eq k 0 (fun e => ?_) (fun hk0 => ?_)
  · subst e
    exact h 1 (by decide) (by decide) (gz_Dk0 _)
  · have hk3 : k = 1 ∨ k = 2 ∨ k = 3 := by omega
    refine loop_0 (fun n r (g : Int) => wY_divisorOf_12 post (nI k) m (nI cols) fc ff fl D n (gz_i g) (nI r))
      (fun r g => 0 ≤ g ∧ g.natAbs ≤ 2430000 ∧ ∀ d, d ∣ g ↔ ∀ r', r' < r → gz_bit m r' → ∀ s, s < gy_lim k cols r' → gy_Q k cols m D d r' s) 5 0
      ⟨by decide, by decide, fun d => ⟨fun _ r hr => absurd hr (by omega), fun _ => Int.dvd_zero d⟩⟩ ?_ ?_
    · intro n g ⟨h1, h2, h3⟩
      exact br_t (by decide) (h g h1 (by omega) ⟨h1, fun d => (h3 d).trans (gy_M hk3 hc hc3)⟩)
    · intro n r g hr ⟨h1, h2, h3⟩ K
      have go : ∃ n1, wY_divisorOf_34 post (wY_divisorOf_12 post (nI k) m (nI cols) fc ff fl D n) (nI k) m (nI cols) (nI r) (nI (gy_lim k cols r)) fc ff fl D n1 (gz_i g) 0 := by
        refine gy_34 hsm hk3 hc hc3 hr h2 ?_
        intro g' a1 a2 a3
        refine K g' ⟨by omega, a2, fun d => ?_⟩
        rw [a3, h3]
        constructor
        · intro ⟨x1, x2⟩ r' hr' hb
          by_cases e : r' = r
          · subst e; exact x2 hb
          · exact x1 r' (by omega) hb
        · intro x
          exact ⟨fun r' hr' hb => x r' (by omega) hb, x r (by omega)⟩
      refine br_f (nI_ge (b := 5) hr (by decide)) (pk_eq k 1 (fun e => ?_) (fun e => ?_))
      · have el : gy_lim k cols r = cols := if_pos e
        rw [el] at go
        exact go
      · have el : gy_lim k cols r = r := if_neg e
        rw [el] at go
        exact go
theorem gy_rank {post : Int32 → Prop} {fc ff fl m : Int32} {D : Nat → Int32} {cols : Nat} (hsm : gy_sm m D) (hc : 1 ≤ cols) (hc3 : cols ≤ 3)
    (h : ∀ r : Nat, gz_Rk (gz_G 5 (gz_bit m) (gy_row cols D)) r → post (nI r)) : wpY_rankOf post (fc, ff, fl, D) m (nI cols) := by
  refine pk_loop (fun n k (r : Nat) => wY_rankOf_5 post m (nI cols) fc ff fl D n (nI r) (nI k))
    (fun k r => r < k ∧ 1 ≤ k ∧ ¬ gz_M r (gz_G 5 (gz_bit m) (gy_row cols D)) (fun x => (0 : Int) ∣ x) ∧ ∀ j, r < j → j < k → gz_M j (gz_G 5 (gz_bit m) (gy_row cols D)) (fun x => (0 : Int) ∣ x)) 4 1 0 (by decide) ?_ ?_ ?_
  · exact ⟨by decide, by decide, fun h => absurd (Int.zero_dvd.1 h) (by decide), fun j h1 h2 => absurd h1 (by omega)⟩
  · intro n r ⟨h1, h2, h3, h4⟩
    exact br_t (by decide) (h r ⟨by omega, h3, fun j a b => h4 j a (by omega)⟩)
  · intro n k r hk ⟨h1, h2, h3, h4⟩ K
    refine br_f (nI_ge (b := 4) hk (by decide)) (gy_div hsm (by omega) hc hc3 ?_)
    intro g g1 g2 g3
    refine gz_be g 0 (fun e => ?_) (fun e => ?_)
    · refine nm_r (nI_1 k) (K r ⟨by omega, by omega, h3, fun j a b => ?_⟩)
      by_cases ej : j = k
      · subst ej; exact (gz_D0 g3).1 e
      · exact h4 j a (by omega)
    · exact nm_r (nI_1 k) (K k ⟨by omega, by omega, fun hM => e ((gz_D0 g3).2 hM), fun j a b => absurd a (by omega)⟩)
theorem gy_ord {post : Int32 → Prop} {fc ff fl m : Int32} {D : Nat → Int32} {cols : Nat} {G : gz_V → Prop} (hsm : gy_sm (m ||| 16) D) (hm : ∀ r, r < 5 → gz_bit m r → gz_bit (m ||| 16) r)
    (hc : 1 ≤ cols) (hc3 : cols ≤ 3) (hG : ∀ u, gz_G 5 (gz_bit m) (gy_row cols D) u ↔ G u) (hG2 : ∀ u, gz_G 5 (gz_bit (m ||| 16)) (gy_row cols D) u ↔ gz_pl G (gy_row cols D 4) u)
    (h0 : gz_Or G (gy_row cols D 4) 0 → post (-1000000)) (h1 : ∀ e : Int, 0 < e → e ≤ 2430000 → gz_Or G (gy_row cols D 4) e → post (gz_i e)) : wpY_orderOf post (fc, ff, fl, D) m (nI cols) := by
  have hsm2 : gy_sm m D := fun r hr hb => hsm r hr (hm r hr hb)
  unfold wpY_orderOf
  dsimp only
  refine gy_rank hsm2 hc hc3 ?_
  intro r hr
  rw [gz_Ge hG] at hr
  refine gy_rank hsm hc hc3 ?_
  intro t ht
  rw [gz_Ge hG2] at ht
  have r3 := hr.1
  have t3 := ht.1
  refine pk_le t r (fun hle => ?_) (fun hlt => h0 (gz_ordN hr ht hlt))
  refine gy_div hsm2 r3 hc hc3 ?_
  intro g g1 g2 g3
  rw [gz_Ge hG] at g3
  refine gy_div hsm r3 hc hc3 ?_
  intro k k1 k2 k3
  rw [gz_Ge hG2] at k3
  obtain ⟨o1, o2, o3⟩ := gz_ordT hr ht hle g3 k3
  have hb : (g.tdiv k).natAbs ≤ g.natAbs := by
    rw [gz_e2]
    exact Nat.div_le_self _ _
  refine ⟨fun e => ?_, ?_⟩
  · have := (gz_iE (b := 0)).1 e
    omega
  · rw [gz_iD (a := g) (b := k)]
    exact h1 _ o2 (by omega) o3
end
section
/-! Y: which rows a mask names; has, step -/
def gy_mk (n : Nat) : Int32 := ((1 : Int32) <<< (nI n &&& 31)) - 1
theorem gy_b1 : ∀ n, n < 5 → ∀ r, r < 5 → (((gy_mk n >>> (nI r &&& 31)) &&& 1) = 1 ↔ r < n) := by decide
theorem gy_b2 : ∀ n, n < 5 → ∀ r, r < 5 → ((((gy_mk n ||| 16) >>> (nI r &&& 31)) &&& 1) = 1 ↔ r < n ∨ r = 4) := by decide
theorem gy_b3 : ∀ n, n < 5 → ∀ k, k < 5 → ∀ r, r < 5 → ((((gy_mk n &&& (((1 : Int32) <<< (nI k &&& 31)) ^^^ (-1))) >>> (nI r &&& 31)) &&& 1) = 1 ↔ r < n ∧ ¬ r = k) := by decide
theorem gy_b4 : ∀ n, n < 5 → ∀ k, k < 4 → ∀ r, r < 5 → (((((gy_mk n &&& (((1 : Int32) <<< (nI k &&& 31)) ^^^ (-1))) ||| 16) >>> (nI r &&& 31)) &&& 1) = 1 ↔ (r < n ∧ ¬ r = k) ∨ r = 4) := by decide
theorem gy_lo : ∀ r, r < 5 → ¬ nI r = (-1 : Int32) := by decide
theorem gy_ro {n r : Nat} {w : Nat → Int} {D : Nat → Int32} (hw : gz_sw n w) (hD : gz_cw n w D) (hr : r < n) : gz_ro (gz_W D) r = gz_ro w r := by
  have k : ∀ j, j < 3 * n → gz_W D j = w j := by
    intro j hj
    have hb := hw.2 j hj
    show (D j).toInt = w j
    rw [hD j hj]
    exact gz_iT (by omega)
  exact gz_ext (k _ (by omega)) (k _ (by omega)) (k _ (by omega))
theorem gy_st1 {n cols : Nat} {w : Nat → Int} {D : Nat → Int32} {m lo : Int32} (hw : gz_sw n w) (hD : gz_cw n w D) (hb : ∀ r, r < 5 → (gz_bit m r ↔ r < n ∧ ¬ nI r = lo)) (u : gz_V) :
    gz_G 5 (gz_bit m) (gy_row cols D) u ↔ gz_pr cols (gz_R w lo n) u := by
  have hn := hw.1
  constructor
  · intro ⟨r, hr, hbr, e⟩
    obtain ⟨h1, h2⟩ := (hb r hr).1 hbr
    refine ⟨gz_ro w r, ⟨r, h1, h2, rfl⟩, ?_⟩
    rw [e, ← gy_ro hw hD h1]
    rfl
  · intro ⟨v, ⟨r, hr, hlo, e⟩, e2⟩
    refine ⟨r, by omega, (hb r (by omega)).2 ⟨hr, hlo⟩, ?_⟩
    rw [e2, e, ← gy_ro hw hD hr]
    rfl
theorem gy_st2 {n cols : Nat} {w : Nat → Int} {D : Nat → Int32} {m lo : Int32} (hw : gz_sw n w) (hD : gz_cw n w D) (hb : ∀ r, r < 5 → (gz_bit (m ||| 16) r ↔ (r < n ∧ ¬ nI r = lo) ∨ r = 4)) (u : gz_V) :
    gz_G 5 (gz_bit (m ||| 16)) (gy_row cols D) u ↔ gz_pl (gz_pr cols (gz_R w lo n)) (gy_row cols D 4) u := by
  have hn := hw.1
  constructor
  · intro ⟨r, hr, hbr, e⟩
    rcases (hb r hr).1 hbr with ⟨h1, h2⟩ | h4
    · refine Or.inl ⟨gz_ro w r, ⟨r, h1, h2, rfl⟩, ?_⟩
      rw [e, ← gy_ro hw hD h1]
      rfl
    · subst h4
      exact Or.inr e
  · intro hu
    rcases hu with ⟨v, ⟨r, hr, hlo, e⟩, e2⟩ | e
    · refine ⟨r, by omega, (hb r (by omega)).2 (Or.inl ⟨hr, hlo⟩), ?_⟩
      rw [e2, e, ← gy_ro hw hD hr]
      rfl
    · exact ⟨4, by decide, (hb 4 (by decide)).2 (Or.inr rfl), e⟩
theorem gy_ordW {post : Int32 → Prop} {fc ff fl m lo : Int32} {D : Nat → Int32} {n cols : Nat} {w : Nat → Int} {x y z : Int} (hw : gz_sw n w) (hD : gz_cw n w D) (h4 : gz_ro (gz_W D) 4 = (x, y, z))
    (hx : x.natAbs ≤ 5000) (hy : y.natAbs ≤ 5000) (hz : z.natAbs ≤ 5000)
    (hb : ∀ r, r < 5 → (gz_bit m r ↔ r < n ∧ ¬ nI r = lo)) (hb2 : ∀ r, r < 5 → (gz_bit (m ||| 16) r ↔ (r < n ∧ ¬ nI r = lo) ∨ r = 4)) (hc : 1 ≤ cols) (hc3 : cols ≤ 3)
    (h0 : gz_Or (gz_pr cols (gz_R w lo n)) (gz_pj cols (x, y, z)) 0 → post (-1000000))
    (h1 : ∀ e : Int, 0 < e → e ≤ 2430000 → gz_Or (gz_pr cols (gz_R w lo n)) (gz_pj cols (x, y, z)) e → post (gz_i e)) : wpY_orderOf post (fc, ff, fl, D) m (nI cols) := by
  have hn := hw.1
  have e4 : gy_row cols D 4 = gz_pj cols (x, y, z) := by
    show gz_pj cols (gz_ro (gz_W D) 4) = _
    rw [h4]
  refine gy_ord (G := gz_pr cols (gz_R w lo n)) ?_ (fun r hr h => (hb2 r hr).2 (Or.inl ((hb r hr).1 h))) hc hc3 (gy_st1 hw hD hb) (gy_st2 hw hD hb2) (by rw [e4]; exact h0) (by rw [e4]; exact h1)
  intro r hr hbr
  rcases (hb2 r hr).1 hbr with ⟨k1, _⟩ | k1
  · rw [gy_ro hw hD k1]
    have a1 := hw.2 (3 * r) (by omega)
    have a2 := hw.2 (3 * r + 1) (by omega)
    have a3 := hw.2 (3 * r + 2) (by omega)
    exact ⟨Nat.le_trans a1 (by decide), Nat.le_trans a2 (by decide), Nat.le_trans a3 (by decide), fun _ => ⟨a1, a2, a3⟩⟩
  · subst k1
    rw [h4]
    exact ⟨hx, hy, hz, fun h => absurd h (by decide)⟩
theorem gy_put {post : SY → Prop} {fc ff fl : Int32} {D : Nat → Int32} {n : Nat} {w : Nat → Int} {x y z : Int} (hw : gz_sw n w) (hD : gz_cw n w D) (hx : x.natAbs ≤ 5000) (hy : y.natAbs ≤ 5000) (hz : z.natAbs ≤ 5000)
    (h : ∀ D', gz_cw n w D' → gz_ro (gz_W D') 4 = (x, y, z) → post (fc, ff, fl, D')) : wpY_put post (fc, ff, fl, D) 4 (gz_i x) (gz_i y) (gz_i z) := by
  have hn := hw.1
  have v0 : vp_in ((3 : Int32) * 4) 15 := gx_v3 (a := 4) (by decide) (by decide)
  have v1 : vp_in ((3 : Int32) * 4 + 1) 15 := gx_vi31 (a := 4) (by decide) (by decide)
  have v2 : vp_in ((3 : Int32) * 4 + 2) 15 := gx_vi32 (a := 4) (by decide) (by decide)
  have e0 : ((3 : Int32) * 4).toNatClampNeg = 12 := gx_cl3 (a := 4) (by decide)
  have e1 : ((3 : Int32) * 4 + 1).toNatClampNeg = 13 := gx_ad31 (a := 4) (by decide)
  have e2 : ((3 : Int32) * 4 + 2).toNatClampNeg = 14 := gx_ad32 (a := 4) (by decide)
  refine And.intro v0 (nm_e ⟨v1, nm_e ⟨v2, nm_e ?_⟩⟩)
  rw [e0, e1, e2]
  refine h _ ?_ ?_
  · intro j hj
    rw [pk_un (by omega), pk_un (by omega), pk_un (by omega)]
    exact hD j hj
  · refine gz_ext ?_ ?_ ?_
    · show (upd (upd (upd D 12 (gz_i x)) 13 (gz_i y)) 14 (gz_i z) 12).toInt = x
      rw [pk_un (by decide), pk_un (by decide), pk_us]
      exact gz_iT (by omega)
    · show (upd (upd (upd D 12 (gz_i x)) 13 (gz_i y)) 14 (gz_i z) 13).toInt = y
      rw [pk_un (by decide), pk_us]
      exact gz_iT (by omega)
    · show (upd (upd (upd D 12 (gz_i x)) 13 (gz_i y)) 14 (gz_i z) 14).toInt = z
      rw [pk_us]
      exact gz_iT (by omega)
theorem gy_bA {n : Nat} (hn : n ≤ 4) (r : Nat) (hr : r < 5) : gz_bit (gy_mk n) r ↔ r < n ∧ ¬ nI r = (-1 : Int32) :=
  (gy_b1 n (by omega) r hr).trans ⟨fun h => ⟨h, gy_lo r hr⟩, fun h => h.1⟩
theorem gy_bB {n : Nat} (hn : n ≤ 4) (r : Nat) (hr : r < 5) : gz_bit (gy_mk n ||| 16) r ↔ (r < n ∧ ¬ nI r = (-1 : Int32)) ∨ r = 4 :=
  (gy_b2 n (by omega) r hr).trans ⟨fun h => h.elim (fun h => Or.inl ⟨h, gy_lo r hr⟩) Or.inr, fun h => h.elim (fun h => Or.inl h.1) Or.inr⟩
theorem gy_all {post : Int32 → Prop} {ff fl : Int32} {D : Nat → Int32} {n : Nat} (h : post (gy_mk n)) : wpY_allRows post (nI n, ff, fl, D) := h
theorem gy_has {post : Int32 → SY → Prop} {ff fl : Int32} {D : Nat → Int32} {n cols : Nat} {w : Nat → Int} {x y z : Int} (hw : gz_sw n w) (hD : gz_cw n w D) (hx : x.natAbs ≤ 5000) (hy : y.natAbs ≤ 5000) (hz : z.natAbs ≤ 5000)
    (hc : 1 ≤ cols) (hc3 : cols ≤ 3)
    (h1 : gz_Sp (gz_pr cols (gz_R w (-1) n)) (gz_pj cols (x, y, z)) → ∀ D', gz_cw n w D' → post 1 (nI n, ff, fl, D'))
    (h0 : ¬ gz_Sp (gz_pr cols (gz_R w (-1) n)) (gz_pj cols (x, y, z)) → ∀ D', gz_cw n w D' → post 0 (nI n, ff, fl, D')) :
    wpY_hasIn post (nI n, ff, fl, D) (gz_i x) (gz_i y) (gz_i z) (nI cols) := by
  have hn := hw.1
  unfold wpY_hasIn
  dsimp only
  refine gy_put hw hD hx hy hz ?_
  intro D' hD' h4
  refine gy_all ?_
  refine gy_ordW (m := gy_mk n) (lo := -1) hw hD' h4 hx hy hz (gy_bA hn) (gy_bB hn) hc hc3 (fun o => ?_) (fun e e1 e2 o => ?_)
  · exact br_f (by decide) (h0 (fun hs => absurd ((gz_Or1 o).1 hs) (by decide)) D' hD')
  · exact gz_be e 1 (fun ee => h1 ((gz_Or1 o).2 ee) D' hD') (fun ee => h0 (fun hs => ee ((gz_Or1 o).1 hs)) D' hD')
/-- a step as the answer shows it -/
def gy_sv (d : Int) : Int32 := if d = 0 then -1000000 else gz_i d
theorem gy_ordv {G : gz_V → Prop} {v : gz_V} {d : Int} {post : Int32 → Prop} (hd : gz_Or G v d) (h : post (gy_sv d)) :
    (gz_Or G v 0 → post (-1000000)) ∧ (∀ e : Int, 0 < e → e ≤ 2430000 → gz_Or G v e → post (gz_i e)) := by
  constructor
  · intro o
    have e := gz_Oru hd o
    subst e
    exact h
  · intro e e1 _ o
    have e2 := gz_Oru hd o
    subst e2
    have e3 : gy_sv d = gz_i d := if_neg (by omega)
    rw [e3] at h
    exact h
theorem gy_s0 {post : Int32 → SY → Prop} {ff fl : Int32} {D : Nat → Int32} {n : Nat} {w : Nat → Int} {a p q b s c : Int} (hw : gz_sw n w) (hD : gz_cw n w D)
    (hs : ∀ v, gz_Sp (gz_B a p q b s c) v ↔ gz_Sp (gz_R w (-1) n) v) (hH : gz_H a p q b s c) (h : ∀ D', gz_cw n w D' → post (gy_sv a) (nI n, ff, fl, D')) : wpY_step post (nI n, ff, fl, D) 0 := by
  have hn := hw.1
  refine br_f (by decide) (br_t (by decide) (br_t (by decide) (br_f (by decide) (br_f (by decide) ?_))))
  refine gy_put (x := 1) (y := 0) (z := 0) hw hD (by decide) (by decide) (by decide) ?_
  intro D' hD' h4
  have o := gy_ordv (post := fun r => post r (nI n, ff, fl, D')) (gz_o0 hs hH.2.1) (h D' hD')
  have e : gz_pj 1 (1, 0, 0) = (1, 0, 0) := by apply gz_ext <;> simp [gz_pj]
  rw [← e] at o
  refine gy_all ?_
  exact gy_ordW (post := fun r => post r (nI n, ff, fl, D')) (m := gy_mk n) (lo := -1) (cols := 1) hw hD' h4 (by decide) (by decide) (by decide) (gy_bA hn) (gy_bB hn) (by decide) (by decide) o.1 o.2
theorem gy_s1 {post : Int32 → SY → Prop} {ff fl : Int32} {D : Nat → Int32} {n : Nat} {w : Nat → Int} {a p q b s c : Int} (hw : gz_sw n w) (hD : gz_cw n w D)
    (hs : ∀ v, gz_Sp (gz_B a p q b s c) v ↔ gz_Sp (gz_R w (-1) n) v) (hH : gz_H a p q b s c) (h : ∀ D', gz_cw n w D' → post (gy_sv b) (nI n, ff, fl, D')) : wpY_step post (nI n, ff, fl, D) 1 := by
  have hn := hw.1
  refine br_f (by decide) (br_t (by decide) (br_f (by decide) (br_t (by decide) (br_f (by decide) ?_))))
  refine gy_put (x := 0) (y := 1) (z := 0) hw hD (by decide) (by decide) (by decide) ?_
  intro D' hD' h4
  have o := gy_ordv (post := fun r => post r (nI n, ff, fl, D')) (gz_o1 hs hH.1 hH.2.2.1) (h D' hD')
  have e : gz_pj 2 (0, 1, 0) = (0, 1, 0) := by apply gz_ext <;> simp [gz_pj]
  rw [← e] at o
  refine gy_all ?_
  exact gy_ordW (post := fun r => post r (nI n, ff, fl, D')) (m := gy_mk n) (lo := -1) (cols := 2) hw hD' h4 (by decide) (by decide) (by decide) (gy_bA hn) (gy_bB hn) (by decide) (by decide) o.1 o.2
theorem gy_s2s {post : Int32 → SY → Prop} {ff fl : Int32} {D : Nat → Int32} {n : Nat} {w : Nat → Int} {a p q b s c : Int} (hw : gz_sw n w) (hD : gz_cw n w D)
    (hs : ∀ v, gz_Sp (gz_B a p q b s c) v ↔ gz_Sp (gz_R w (-1) n) v) (hH : gz_H a p q b s c) (h : ∀ D', gz_cw n w D' → post (gy_sv c) (nI n, ff, fl, D')) : wpY_step post (nI n, ff, fl, D) 2 := by
  have hn := hw.1
  refine br_f (by decide) (br_t (by decide) (br_f (by decide) (br_f (by decide) (br_t (by decide) ?_))))
  refine gy_put (x := 0) (y := 0) (z := 1) hw hD (by decide) (by decide) (by decide) ?_
  intro D' hD' h4
  have o := gy_ordv (post := fun r => post r (nI n, ff, fl, D')) (gz_o2 hs hH.1 hH.2.2.2.1) (h D' hD')
  have e : gz_pj 3 (0, 0, 1) = (0, 0, 1) := gz_pj3 _
  rw [← e] at o
  refine gy_all ?_
  exact gy_ordW (post := fun r => post r (nI n, ff, fl, D')) (m := gy_mk n) (lo := -1) (cols := 3) hw hD' h4 (by decide) (by decide) (by decide) (gy_bA hn) (gy_bB hn) (by decide) (by decide) o.1 o.2
end
section
/-! Y: the corners -/
theorem gy_Rm {n r : Nat} {w : Nat → Int} (hw : gz_sw n w) (hr : r < n) : gz_R w (-1) n (gz_ro w r) := by
  have hn := hw.1
  exact ⟨r, hr, gy_lo r (by omega), rfl⟩
theorem gy_Re {n : Nat} {w : Nat → Int} {g : gz_V} (h : gz_R w (-1) n g) : ∃ r, r < n ∧ g = gz_ro w r := by
  obtain ⟨r, hr, _, e⟩ := h
  exact ⟨r, hr, e⟩
theorem gy_c3 {n r j : Nat} {w : Nat → Int} {D : Nat → Int32} (hw : gz_sw n w) (hD : gz_cw n w D) (hr : r < n) (hj : j < 3) : D (3 * nI r + nI j).toNatClampNeg = gz_i (w (3 * r + j)) ∧ vp_in (3 * nI r + nI j) 15 := by
  have hn := hw.1
  rw [gx_ad3 (a := r) (b := j) (by omega)]
  exact ⟨hD _ (by omega), gx_vi3 (by omega) (by omega)⟩
theorem gy_c0 {n r : Nat} {w : Nat → Int} {D : Nat → Int32} (hw : gz_sw n w) (hD : gz_cw n w D) (hr : r < n) : D (3 * nI r).toNatClampNeg = gz_i (w (3 * r)) ∧ vp_in (3 * nI r) 15 := by
  have hn := hw.1
  rw [gx_cl3 (a := r) (by omega)]
  exact ⟨hD _ (by omega), gx_v3 (by omega) (by omega)⟩
theorem gy_yf {post : Int32 → SY → Prop} {ff fl : Int32} {D : Nat → Int32} {n : Nat} {w : Nat → Int} {a p q b s c : Int} (hw : gz_sw n w) (hD : gz_cw n w D)
    (hs : ∀ v, gz_Sp (gz_B a p q b s c) v ↔ gz_Sp (gz_R w (-1) n) v) (hH : gz_H a p q b s c) (hB : gz_Bd a p q b s c) (ha : a ≠ 0)
    (h : ∀ D', gz_cw n w D' → post (gz_i p) (nI n, ff, fl, D')) : wpY_yFor post (nI n, ff, fl, D) (gz_i a) := by
  have hn := hw.1
  obtain ⟨hZ, g1, g2, g3, hp, _⟩ := hH
  obtain ⟨k1, k2, k3, k4, k5, k6⟩ := hB
  unfold wpY_yFor
  dsimp only
  refine gy_s1 hw hD hs ⟨hZ, g1, g2, g3, hp, by assumption⟩ ?_
  intro D1 hD1
  by_cases hb : b = 0
  · have e : gy_sv b = -1000000 := if_pos hb
    rw [e]
    refine ⟨1, br_t (by decide) ?_⟩
    refine loop_0 (fun m r (_ : Unit) => wY_yFor_34 post (gz_i a) (nI n) ff fl D1 m (nI r)) (fun r _ => ∃ r1, r ≤ r1 ∧ r1 < n ∧ w (3 * r1) ≠ 0) n () ?_ ?_ ?_
    · obtain ⟨g, hg, hg1⟩ := gz_ex1 hs ha
      obtain ⟨r, hr, e⟩ := gy_Re hg
      subst e
      exact ⟨r, by omega, hr, hg1⟩
    · intro m _ ⟨r1, a1, a2, _⟩
      exact absurd a1 (by omega)
    · intro m r _ hr ⟨r1, a1, a2, a3⟩ K
      obtain ⟨c0, v0⟩ := gy_c0 hw hD1 hr
      obtain ⟨c1, v1⟩ := gy_c3 (j := 1) hw hD1 hr (by decide)
      have w0 := hw.2 (3 * r) (by omega)
      have w1 := hw.2 (3 * r + 1) (by omega)
      refine br_f (nI_ge hr (by omega)) ⟨v0, gz_be (w (3 * r)) 0 (fun e => ?_) (fun e => ?_) c0⟩
      · refine nm_r (nI_1 r) (K () ⟨r1, ?_, a2, a3⟩)
        by_cases e2 : r1 = r
        · subst e2; exact absurd e a3
        · omega
      · have hne : ¬ D1 (3 * nI r).toNatClampNeg = 0 := by
          rw [c0]
          exact fun e2 => e ((gz_iE (b := 0)).1 e2)
        refine ⟨v1, v0, hne, ?_⟩
        have ev : gz_i a * D1 (3 * nI r + 1).toNatClampNeg / D1 (3 * nI r).toNatClampNeg = gz_i p := by
          have c1' : D1 (3 * nI r + 1).toNatClampNeg = gz_i (w (3 * r + 1)) := c1
          have pb := gz_pm (show a.natAbs ≤ 9 by omega) w1
          rw [c0, c1', gz_im, gz_iD (a := a * w (3 * r + 1)) (b := w (3 * r))]
          exact gz_iq (gz_qy hs hb (gy_Rm hw hr) e)
        rw [ev]
        exact h D1 hD1
  · have e : gy_sv b = gz_i b := if_neg hb
    have hpb := hp hb
    rw [e]
    refine loop_0 (fun m y (E : Nat → Int32) => wY_yFor_8 post (gz_i a) (gz_i b) m (nI y) (nI n) ff fl E) (fun _ E => gz_cw n w E) p.toNat D1 hD1 ?_ ?_
    · intro m E hE
      have e1 : nI p.toNat = gz_i p := by rw [← gz_iN]; exact gz_iq (by omega)
      rw [e1]
      refine gz_bl b p (fun h1 => absurd h1 (by omega)) (fun _ => ?_)
      refine gy_has (z := 0) (cols := 2) hw hE (by omega) (by omega) (by decide) (by decide) (by decide) (fun _ E' hE' => ?_) (fun hno => ?_)
      · exact br_f (by decide) (h E' hE')
      · refine absurd ?_ hno
        have e2 : gz_pj 2 (a, p, 0) = (a, p, 0) := by apply gz_ext <;> simp [gz_pj]
        rw [e2]
        exact (gz_cy hs ha).2 ⟨0, by omega⟩
    · intro m y E hy hE K
      have e1 : nI y = gz_i (y : Int) := (gz_iN y).symm
      refine gz_bl b (y : Int) (fun h1 => absurd h1 (by omega)) (fun _ => ?_) rfl e1
      rw [e1]
      refine gy_has (z := 0) (cols := 2) hw hE (by omega) (by omega) (by decide) (by decide) (by decide) (fun hyes => ?_) (fun _ E' hE' => ?_)
      · have e2 : gz_pj 2 (a, (y : Int), 0) = (a, (y : Int), 0) := by apply gz_ext <;> simp [gz_pj]
        rw [e2] at hyes
        have e3 := gz_uq ((gz_cy hs ha).1 hyes) ⟨by omega, by omega⟩ hpb
        omega
      · refine br_t (by decide) (nm_r ?_ (K E' hE'))
        rw [← e1]
        exact nI_1 y
theorem gy_zo {post : Int32 → Prop} {ff fl : Int32} {D : Nat → Int32} {n : Nat} {w : Nat → Int} {x y v : Int} (hw : gz_sw n w) (hD : gz_cw n w D) (hx : x.natAbs ≤ 9) (hy : y.natAbs ≤ 162)
    (H1 : ∀ r s, r < n → s < n → gz_xy (gz_ro w r) (gz_ro w s) ≠ 0 → (y * gz_xz (gz_ro w r) (gz_ro w s) - x * gz_yz (gz_ro w r) (gz_ro w s)).tdiv (gz_xy (gz_ro w r) (gz_ro w s)) = v)
    (H2 : (∀ r s, r < n → s < n → gz_xy (gz_ro w r) (gz_ro w s) = 0) → ∀ r, r < n → (w (3 * r) ≠ 0 → (x * w (3 * r + 2)).tdiv (w (3 * r)) = v) ∧ (w (3 * r) = 0 → w (3 * r + 1) ≠ 0 → (y * w (3 * r + 2)).tdiv (w (3 * r + 1)) = v))
    (H3 : (∀ r s, r < n → s < n → gz_xy (gz_ro w r) (gz_ro w s) = 0) → ∃ r, r < n ∧ (w (3 * r) ≠ 0 ∨ w (3 * r + 1) ≠ 0))
    (h : post (gz_i v)) : wpY_zOver post (nI n, ff, fl, D) (gz_i x) (gz_i y) := by
  have hn := hw.1
  have hnn : n * n ≤ 16 := Nat.mul_le_mul hn hn
  refine loop_0 (fun m i (_ : Unit) => wY_zOver_2 post (gz_i x) (gz_i y) (nI n) ff fl D m (nI i)) (fun i _ => ∀ r s, r < n → s < n → r * n + s < i → gz_xy (gz_ro w r) (gz_ro w s) = 0) (n * n) () ?_ ?_ ?_
  · intro r s _ _ hlt
    exact absurd hlt (by omega)
  · intro m _ hall
    have hall2 : ∀ r s, r < n → s < n → gz_xy (gz_ro w r) (gz_ro w s) = 0 := by
      intro r s hr hs
      refine hall r s hr hs ?_
      have h1 : (r + 1) * n ≤ n * n := Nat.mul_le_mul_right n hr
      rw [Nat.add_mul, Nat.one_mul] at h1
      omega
    refine br_t (by rw [pk_mul]; exact nI_le (Nat.le_refl _) (by omega)) ?_
    refine loop_0 (fun m r (_ : Unit) => wY_zOver_85 post (gz_i x) (gz_i y) (nI n) ff fl D m (nI r)) (fun r _ => ∃ r1, r ≤ r1 ∧ r1 < n ∧ (w (3 * r1) ≠ 0 ∨ w (3 * r1 + 1) ≠ 0)) n () ?_ ?_ ?_
    · obtain ⟨r1, a1, a2⟩ := H3 hall2
      exact ⟨r1, by omega, a1, a2⟩
    · intro m _ ⟨r1, a1, a2, _⟩
      exact absurd a1 (by omega)
    · intro m r _ hr ⟨r1, a1, a2, a3⟩ K
      obtain ⟨c0, v0⟩ := gy_c0 hw hD hr
      obtain ⟨c1, v1⟩ := gy_c3 (j := 1) hw hD hr (by decide)
      obtain ⟨c2, v2⟩ := gy_c3 (j := 2) hw hD hr (by decide)
      have c1' : D (3 * nI r + 1).toNatClampNeg = gz_i (w (3 * r + 1)) := c1
      have c2' : D (3 * nI r + 2).toNatClampNeg = gz_i (w (3 * r + 2)) := c2
      have w0 := hw.2 (3 * r) (by omega)
      have w1 := hw.2 (3 * r + 1) (by omega)
      have w2 := hw.2 (3 * r + 2) (by omega)
      obtain ⟨q1, q2⟩ := H2 hall2 r hr
      refine br_f (nI_ge hr (by omega)) ⟨v0, gz_be (w (3 * r)) 0 (fun e => ?_) (fun e => ?_) c0⟩
      · refine ⟨v1, gz_be (w (3 * r + 1)) 0 (fun e1 => ?_) (fun e1 => ?_) c1'⟩
        · refine nm_r (nI_1 r) (K () ⟨r1, ?_, a2, a3⟩)
          by_cases e2 : r1 = r
          · subst e2
            rcases a3 with a3 | a3
            · exact absurd e a3
            · exact absurd e1 a3
          · omega
        · have hne : ¬ D (3 * nI r + 1).toNatClampNeg = 0 := by
            rw [c1']
            exact fun e2 => e1 ((gz_iE (b := 0)).1 e2)
          refine ⟨v2, v1, hne, ?_⟩
          have pb := gz_pm hy w2
          rw [c1', c2', gz_im, gz_iD (a := y * w (3 * r + 2)) (b := w (3 * r + 1)), q2 e e1]
          exact h
      · have hne : ¬ D (3 * nI r).toNatClampNeg = 0 := by
          rw [c0]
          exact fun e2 => e ((gz_iE (b := 0)).1 e2)
        refine ⟨v2, v0, hne, ?_⟩
        have pb := gz_pm hx w2
        rw [c0, c2', gz_im, gz_iD (a := x * w (3 * r + 2)) (b := w (3 * r)), q1 e]
        exact h
  · intro m i _ hi hall K
    have hn0 : 0 < n := by
      by_cases e : n = 0
      · subst e; omega
      · omega
    have hr : i / n < n := (Nat.div_lt_iff_lt_mul hn0).2 hi
    have hs : i % n < n := Nat.mod_lt i hn0
    have hne : ¬ nI n = 0 := nI_ne0 hn0 (by omega)
    have er := gy_ro hw hD hr
    have es := gy_ro hw hD hs
    have sb := gz_sm2 (gz_Rs (lo := -1) hw (Nat.le_refl n)) (gy_Rm hw hr) (gy_Rm hw hs)
    refine br_f (by rw [pk_mul]; exact nI_ge hi (by omega)) ⟨hne, nm_r (pk_div (by omega) hn0 (by omega)) ⟨hne, nm_r (pk_rem (by omega) hn0 (by omega)) (gy_xy (by omega) (by omega) ?_)⟩⟩
    rw [er, es]
    refine gz_be (gz_xy (gz_ro w (i / n)) (gz_ro w (i % n))) 0 (fun e => ?_) (fun e => ?_)
    · refine nm_r (nI_1 i) (K () (fun r s a1 a2 a3 => ?_))
      by_cases e2 : r * n + s = i
      · have e3 : i / n = r := by
          rw [← e2, Nat.mul_comm, Nat.mul_add_div hn0, Nat.div_eq_of_lt a2, Nat.add_zero]
        have e4 : i % n = s := by
          rw [← e2, Nat.mul_comm, Nat.mul_add_mod, Nat.mod_eq_of_lt a2]
        rw [e3, e4] at e
        exact e
      · exact hall r s a1 a2 (by omega)
    · refine gy_xz (by omega) (by omega) (gy_yz (by omega) (by omega) ?_)
      rw [er, es]
      refine ⟨fun e2 => e ((gz_iE (b := 0)).1 e2), ?_⟩
      have p1 := gz_pm hy sb.2.1
      have p2 := gz_pm hx sb.2.2
      rw [gz_im, gz_im, gz_is, gz_iD (a := y * gz_xz (gz_ro w (i / n)) (gz_ro w (i % n)) - x * gz_yz (gz_ro w (i / n)) (gz_ro w (i % n))) (b := gz_xy (gz_ro w (i / n)) (gz_ro w (i % n))), H1 _ _ hr hs e]
      exact h
theorem gy_zf {post : Int32 → SY → Prop} {ff fl : Int32} {D : Nat → Int32} {n : Nat} {w : Nat → Int} {a p q b s c x y v : Int} (hw : gz_sw n w) (hD : gz_cw n w D)
    (hs : ∀ v, gz_Sp (gz_B a p q b s c) v ↔ gz_Sp (gz_R w (-1) n) v) (hH : gz_H a p q b s c) (hB : gz_Bd a p q b s c) (hx : x.natAbs ≤ 9) (hy : y.natAbs ≤ 162)
    (Hz : c = 0 → ∀ (post : Int32 → Prop) (ff fl : Int32) (D : Nat → Int32), gz_cw n w D → post (gz_i v) → wpY_zOver post (nI n, ff, fl, D) (gz_i x) (gz_i y))
    (Hc : c ≠ 0 → 0 ≤ v ∧ v < c ∧ ∀ z : Int, gz_Sp (gz_R w (-1) n) (x, y, z) ↔ c ∣ z - v)
    (h : ∀ D', gz_cw n w D' → post (gz_i v) (nI n, ff, fl, D')) : wpY_zFor post (nI n, ff, fl, D) (gz_i x) (gz_i y) := by
  have hn := hw.1
  obtain ⟨k1, k2, k3, k4, k5, k6⟩ := hB
  have g3 := hH.2.2.2.1
  unfold wpY_zFor
  dsimp only
  refine gy_s2s hw hD hs hH ?_
  intro D1 hD1
  by_cases hc : c = 0
  · have e : gy_sv c = -1000000 := if_pos hc
    rw [e]
    exact br_t rfl (Hz hc _ ff fl D1 hD1 (h D1 hD1))
  · have e : gy_sv c = gz_i c := if_neg hc
    rw [e]
    obtain ⟨v1, v2, v3⟩ := Hc hc
    refine gz_be c (-1000000) (fun e => absurd e (by omega)) (fun _ => ?_)
    refine loop_0 (fun m z (E : Nat → Int32) => wY_zFor_22 post (gz_i x) (gz_i y) (gz_i c) m (nI z) (nI n) ff fl E) (fun _ E => gz_cw n w E) v.toNat D1 hD1 ?_ ?_
    · intro m E hE
      have e1 : nI v.toNat = gz_i v := by rw [← gz_iN]; exact gz_iq (by omega)
      rw [e1]
      refine gz_bl c v (fun h1 => absurd h1 (by omega)) (fun _ => ?_)
      refine gy_has (cols := 3) hw hE (by omega) (by omega) (by omega) (by decide) (by decide) (fun _ E' hE' => ?_) (fun hno => ?_)
      · exact br_f (by decide) (h E' hE')
      · refine absurd ?_ hno
        rw [gz_pj3]
        exact gz_Sp3.2 ((v3 v).2 ⟨0, by omega⟩)
    · intro m z E hz hE K
      have e1 : nI z = gz_i (z : Int) := (gz_iN z).symm
      refine gz_bl c (z : Int) (fun h1 => absurd h1 (by omega)) (fun _ => ?_) rfl e1
      rw [e1]
      refine gy_has (cols := 3) hw hE (by omega) (by omega) (by omega) (by decide) (by decide) (fun hyes => ?_) (fun _ E' hE' => ?_)
      · rw [gz_pj3] at hyes
        have e3 := gz_uq ((v3 z).1 (gz_Sp3.1 hyes)) ⟨by omega, by omega⟩ ⟨v1, v2⟩
        omega
      · refine br_t (by decide) (nm_r ?_ (K E' hE'))
        rw [← e1]
        exact nI_1 z
end
section
/-! Y: corner -/
def gy_cv (d e : Int) : Int32 := if d = 0 then -1000000 else gz_i e
theorem gy_zq {post : Int32 → SY → Prop} {ff fl : Int32} {D : Nat → Int32} {n : Nat} {w : Nat → Int} {a p q b s c : Int} (hw : gz_sw n w) (hD : gz_cw n w D)
    (hs : ∀ v, gz_Sp (gz_B a p q b s c) v ↔ gz_Sp (gz_R w (-1) n) v) (hH : gz_H a p q b s c) (hB : gz_Bd a p q b s c) (ha : a ≠ 0)
    (h : ∀ D', gz_cw n w D' → post (gz_i q) (nI n, ff, fl, D')) : wpY_zFor post (nI n, ff, fl, D) (gz_i a) (gz_i p) := by
  have g1 := hH.2.1
  have k1 := hB.1
  refine gy_zf hw hD hs hH hB (by omega) hB.2.2.2.1 (fun hc post ff fl D hD hp => ?_) (fun hc => ?_) h
  · refine gy_zo hw hD (by omega) hB.2.2.2.1 (fun r s' hr hs' hne => (gz_qz hs hc (gy_Rm hw hr) (gy_Rm hw hs') hne).1) (fun hall r hr => ?_) (fun _ => ?_) hp
    · have hab : a * b = 0 := gz_ab hs (fun g k hg hk => by
        obtain ⟨r1, h1, e1⟩ := gy_Re hg
        obtain ⟨r2, h2, e2⟩ := gy_Re hk
        subst e1 e2
        exact hall r1 r2 h1 h2)
      have hb : b = 0 := by
        rcases Int.mul_eq_zero.1 hab with h | h
        · exact absurd h ha
        · exact h
      obtain ⟨q1, q2⟩ := gz_qz3 hs hH.1 hc hb ha (gy_Rm hw hr)
      exact ⟨q1, fun e e1 => absurd (q2 e) e1⟩
    · obtain ⟨g, hg, hne⟩ := gz_ex1 hs ha
      obtain ⟨r, hr, e⟩ := gy_Re hg
      subst e
      exact ⟨r, hr, Or.inl hne⟩
  · obtain ⟨q1, q2, _, _⟩ := hH.2.2.2.2.2 hc
    exact ⟨q1, q2, fun z => gz_cz hs hH.1 ha⟩
theorem gy_zs {post : Int32 → SY → Prop} {ff fl : Int32} {D : Nat → Int32} {n : Nat} {w : Nat → Int} {a p q b s c : Int} (hw : gz_sw n w) (hD : gz_cw n w D)
    (hs : ∀ v, gz_Sp (gz_B a p q b s c) v ↔ gz_Sp (gz_R w (-1) n) v) (hH : gz_H a p q b s c) (hB : gz_Bd a p q b s c) (hb : b ≠ 0)
    (h : ∀ D', gz_cw n w D' → post (gz_i s) (nI n, ff, fl, D')) : wpY_zFor post (nI n, ff, fl, D) (gz_i 0) (gz_i b) := by
  have g1 := hH.2.2.1
  have k1 := hB.2.1
  refine gy_zf hw hD hs hH hB (by decide) (by omega) (fun hc post ff fl D hD hp => ?_) (fun hc => ?_) h
  · refine gy_zo hw hD (by decide) (by omega) (fun r s' hr hs' hne => (gz_qz hs hc (gy_Rm hw hr) (gy_Rm hw hs') hne).2) (fun hall r hr => ?_) (fun _ => ?_) hp
    · have hab : a * b = 0 := gz_ab hs (fun g k hg hk => by
        obtain ⟨r1, h1, e1⟩ := gy_Re hg
        obtain ⟨r2, h2, e2⟩ := gy_Re hk
        subst e1 e2
        exact hall r1 r2 h1 h2)
      have ha : a = 0 := by
        rcases Int.mul_eq_zero.1 hab with h | h
        · exact h
        · exact absurd h hb
      obtain ⟨q1, q2⟩ := gz_qz4 hs hH.1 hc ha (gy_Rm hw hr)
      exact ⟨fun e => absurd q1 e, fun _ e1 => q2 e1⟩
    · obtain ⟨g, hg, hne⟩ := gz_ex2 hs hb
      obtain ⟨r, hr, e⟩ := gy_Re hg
      subst e
      exact ⟨r, hr, Or.inr hne⟩
  · obtain ⟨_, _, q1, q2⟩ := hH.2.2.2.2.2 hc
    exact ⟨q1, q2, fun z => gz_cs hs hH.1 hb⟩
def gy_en (a p q b s c : Int) (i j : Nat) : Int :=
  match i, j with
  | 0, 0 => a
  | 0, 1 => p
  | 0, 2 => q
  | 1, 1 => b
  | 1, 2 => s
  | 2, 2 => c
  | _, _ => 0
def gy_dg (a b c : Int) (i : Nat) : Int :=
  match i with
  | 0 => a
  | 1 => b
  | _ => c
theorem gy_sv0 {d e : Int} (h : d = 0) : gy_sv d = -1000000 ∧ gy_cv d e = -1000000 := ⟨if_pos h, if_pos h⟩
theorem gy_sv1 {d e : Int} (h : d ≠ 0) : gy_sv d = gz_i d ∧ gy_cv d e = gz_i e := ⟨if_neg h, if_neg h⟩
section
variable {post : Int32 → SY → Prop} {ff fl : Int32} {D : Nat → Int32} {n : Nat} {w : Nat → Int} {a p q b s c : Int}
theorem gy_co0 (hw : gz_sw n w) (hD : gz_cw n w D)
    (hs : ∀ v, gz_Sp (gz_B a p q b s c) v ↔ gz_Sp (gz_R w (-1) n) v) (hH : gz_H a p q b s c) (hB : gz_Bd a p q b s c) (j : Nat) (hj : j < 3)
    (h : ∀ D', gz_cw n w D' → post (gy_cv a (gy_en a p q b s c 0 j)) (nI n, ff, fl, D')) : wpY_corner post (nI n, ff, fl, D) 0 (nI j) := by
  have g1 := hH.2.1
  have k1 := hB.1
  refine br_f (by decide) (br_f (by decide) (br_f (nI_pos (by omega)) (br_t (nI_le (b := 2) (by omega) (by decide)) (gy_s0 hw hD hs hH ?_))))
  intro D1 hD1
  by_cases ha : a = 0
  · have h2 := h D1 hD1
    rw [(gy_sv0 ha).2] at h2
    rw [(gy_sv0 (e := 0) ha).1]
    exact br_t rfl h2
  · rw [(gy_sv1 (e := 0) ha).1]
    rw [(gy_sv1 ha).2] at h
    refine gz_be a (-1000000) (fun e => absurd e (by omega)) (fun _ => ?_)
    have hj3 : j = 0 ∨ j = 1 ∨ j = 2 := by omega
    rcases hj3 with rfl | rfl | rfl
    · exact br_f (by decide) (br_t rfl (h D1 hD1))
    · exact br_t (by decide) (br_t rfl (br_t rfl (gy_yf hw hD1 hs hH hB ha (fun D2 hD2 => br_t rfl (h D2 hD2)))))
    · exact br_t (by decide) (br_t rfl (br_t rfl (gy_yf hw hD1 hs hH hB ha (fun D2 hD2 => br_f (by decide) (gy_zq hw hD2 hs hH hB ha (fun D3 hD3 => h D3 hD3))))))
theorem gy_co1 (hw : gz_sw n w) (hD : gz_cw n w D)
    (hs : ∀ v, gz_Sp (gz_B a p q b s c) v ↔ gz_Sp (gz_R w (-1) n) v) (hH : gz_H a p q b s c) (hB : gz_Bd a p q b s c) (j : Nat) (hj : j < 3)
    (h : ∀ D', gz_cw n w D' → post (gy_cv b (gy_en a p q b s c 1 j)) (nI n, ff, fl, D')) : wpY_corner post (nI n, ff, fl, D) 1 (nI j) := by
  have g1 := hH.2.2.1
  have k1 := hB.2.1
  refine br_f (by decide) (br_f (by decide) (br_f (nI_pos (by omega)) (br_t (nI_le (b := 2) (by omega) (by decide)) (gy_s1 hw hD hs hH ?_))))
  intro D1 hD1
  by_cases ha : b = 0
  · have h2 := h D1 hD1
    rw [(gy_sv0 ha).2] at h2
    rw [(gy_sv0 (e := 0) ha).1]
    exact br_t rfl h2
  · rw [(gy_sv1 (e := 0) ha).1]
    rw [(gy_sv1 ha).2] at h
    refine gz_be b (-1000000) (fun e => absurd e (by omega)) (fun _ => ?_)
    have hj3 : j = 0 ∨ j = 1 ∨ j = 2 := by omega
    rcases hj3 with rfl | rfl | rfl
    · exact br_f (by decide) (br_f (by decide) (h D1 hD1))
    · exact br_f (by decide) (br_t rfl (h D1 hD1))
    · exact br_t (by decide) (br_f (by decide) (br_f (by decide) (br_f (by decide) (gy_zs hw hD1 hs hH hB ha (fun D3 hD3 => h D3 hD3)))))
theorem gy_co2 (hw : gz_sw n w) (hD : gz_cw n w D)
    (hs : ∀ v, gz_Sp (gz_B a p q b s c) v ↔ gz_Sp (gz_R w (-1) n) v) (hH : gz_H a p q b s c) (hB : gz_Bd a p q b s c) (j : Nat) (hj : j < 3)
    (h : ∀ D', gz_cw n w D' → post (gy_cv c (gy_en a p q b s c 2 j)) (nI n, ff, fl, D')) : wpY_corner post (nI n, ff, fl, D) 2 (nI j) := by
  have g1 := hH.2.2.2.1
  have k1 := hB.2.2.1
  refine br_f (by decide) (br_f (by decide) (br_f (nI_pos (by omega)) (br_t (nI_le (b := 2) (by omega) (by decide)) (gy_s2s hw hD hs hH ?_))))
  intro D1 hD1
  by_cases ha : c = 0
  · have h2 := h D1 hD1
    rw [(gy_sv0 ha).2] at h2
    rw [(gy_sv0 (e := 0) ha).1]
    exact br_t rfl h2
  · rw [(gy_sv1 (e := 0) ha).1]
    rw [(gy_sv1 ha).2] at h
    refine gz_be c (-1000000) (fun e => absurd e (by omega)) (fun _ => ?_)
    have hj3 : j = 0 ∨ j = 1 ∨ j = 2 := by omega
    rcases hj3 with rfl | rfl | rfl
    · exact br_f (by decide) (br_f (by decide) (h D1 hD1))
    · exact br_f (by decide) (br_f (by decide) (h D1 hD1))
    · exact br_f (by decide) (br_t rfl (h D1 hD1))
end
end
section
/-! the relation; add, remove, set, swap, rows -/
def i_Rel (_ : Nat) (u : SX) (v : SY) : Prop := ∃ (n : Nat) (w : Nat → Int), gz_sw n w ∧ u.1 = nI n ∧ gz_cw n w u.2.2.2.1 ∧ v.1 = nI n ∧ gz_cw n w v.2.2.2
theorem i_up {k : Nat} {u : SX} {v : SY} (h : i_Rel k u v) : i_Rel (k + 4) u v := h
theorem i_vc0 : wpX_init (fun u => wpY_init (fun v => i_Rel 0 u v)) :=
  ⟨0, fun _ => 0, ⟨by decide, fun j hj => absurd hj (by omega)⟩, rfl, fun j hj => absurd hj (by omega), rfl, fun j hj => absurd hj (by omega)⟩
theorem gz_mk {k n : Nat} {w : Nat → Int} {lsq lsp ff fl : Int32} {C D : Nat → Int32} {β ρ : Nat → Int64} (hw : gz_sw n w) (hC : gz_cw n w C) (hD : gz_cw n w D) : i_Rel k (nI n, lsq, lsp, C, β, ρ) (nI n, ff, fl, D) :=
  ⟨n, w, hw, rfl, hC, rfl, hD⟩
theorem gx_wi {post : Int32 → Prop} {x N : Int} (hx : -2147483648 ≤ x ∧ x < 2147483648) (hN : 0 ≤ N ∧ N ≤ 5000) (h1 : x.natAbs ≤ N.natAbs → post 1) (h0 : ¬ x.natAbs ≤ N.natAbs → post 0) : wpX_within post (gz_i x) (gz_i N) :=
  gz_bt x (-N) (fun h => h0 (by omega)) (fun h => gz_bt N x (fun h2 => h0 (by omega)) (fun h2 => h1 (by omega))) rfl (gz_ing N)
theorem gx_aw {post : Int32 → Prop} {x y z N : Int} (hx : -2147483648 ≤ x ∧ x < 2147483648) (hy : -2147483648 ≤ y ∧ y < 2147483648) (hz : -2147483648 ≤ z ∧ z < 2147483648) (hN : 0 ≤ N ∧ N ≤ 5000)
    (h1 : x.natAbs ≤ N.natAbs → y.natAbs ≤ N.natAbs → z.natAbs ≤ N.natAbs → post 1) (h0 : ¬ (x.natAbs ≤ N.natAbs ∧ y.natAbs ≤ N.natAbs ∧ z.natAbs ≤ N.natAbs) → post 0) :
    wpX_allWithin post (gz_i x) (gz_i y) (gz_i z) (gz_i N) := by
  unfold wpX_allWithin
  refine gx_wi hx hN (fun a1 => br_f (by decide) ?_) (fun a1 => br_t rfl (h0 (fun h => a1 h.1)))
  refine gx_wi hy hN (fun a2 => br_f (by decide) ?_) (fun a2 => br_t rfl (h0 (fun h => a2 h.2.1)))
  exact gx_wi hz hN (fun a3 => br_f (by decide) (h1 a1 a2 a3)) (fun a3 => br_t rfl (h0 (fun h => a3 h.2.2)))
theorem gy_wi {post : Int32 → Prop} {v : SY} {x N : Int} (hx : -2147483648 ≤ x ∧ x < 2147483648) (hN : 0 ≤ N ∧ N ≤ 5000) (h1 : x.natAbs ≤ N.natAbs → post 1) (h0 : ¬ x.natAbs ≤ N.natAbs → post 0) : wpY_isSmall post v (gz_i x) (gz_i N) :=
  gz_bt x (-N) (fun h => h0 (by omega)) (fun h => gz_bt N x (fun h2 => h0 (by omega)) (fun h2 => h1 (by omega))) rfl (gz_ing N)
theorem gy_aw {post : Int32 → Prop} {v : SY} {x y z N : Int} (hx : -2147483648 ≤ x ∧ x < 2147483648) (hy : -2147483648 ≤ y ∧ y < 2147483648) (hz : -2147483648 ≤ z ∧ z < 2147483648) (hN : 0 ≤ N ∧ N ≤ 5000)
    (h1 : x.natAbs ≤ N.natAbs → y.natAbs ≤ N.natAbs → z.natAbs ≤ N.natAbs → post 1) (h0 : ¬ (x.natAbs ≤ N.natAbs ∧ y.natAbs ≤ N.natAbs ∧ z.natAbs ≤ N.natAbs) → post 0) :
    wpY_areSmall post v (gz_i x) (gz_i y) (gz_i z) (gz_i N) := by
  unfold wpY_areSmall
  refine gy_wi hx hN (fun a1 => br_f (by decide) ?_) (fun a1 => br_t rfl (h0 (fun h => a1 h.1)))
  refine gy_wi hy hN (fun a2 => br_f (by decide) ?_) (fun a2 => br_t rfl (h0 (fun h => a2 h.2.1)))
  exact gy_wi hz hN (fun a3 => br_f (by decide) (h1 a1 a2 a3)) (fun a3 => br_t rfl (h0 (fun h => a3 h.2.2)))
def gz_w3 (w : Nat → Int) (n : Nat) (x y z : Int) : Nat → Int := fun j => if j = 3 * n + 2 then z else if j = 3 * n + 1 then y else if j = 3 * n then x else w j
theorem gz_w3s {n : Nat} {w : Nat → Int} {x y z : Int} (hw : gz_sw n w) (hn : n < 4) (hx : x.natAbs ≤ 9) (hy : y.natAbs ≤ 9) (hz : z.natAbs ≤ 9) : gz_sw (n + 1) (gz_w3 w n x y z) := by
  refine ⟨by omega, fun j hj => ?_⟩
  unfold gz_w3
  split
  · exact hz
  · split
    · exact hy
    · split
      · exact hx
      · exact hw.2 j (by omega)
theorem gz_w3c {n : Nat} {w : Nat → Int} {C : Nat → Int32} {x y z : Int} (hC : gz_cw n w C) : gz_cw (n + 1) (gz_w3 w n x y z) (upd (upd (upd C (3 * n) (gz_i x)) (3 * n + 1) (gz_i y)) (3 * n + 2) (gz_i z)) := by
  intro j hj
  unfold gz_w3
  split
  · next e => subst e; exact pk_us
  · next e =>
    rw [pk_un e]
    split
    · next e => subst e; exact pk_us
    · next e =>
      rw [pk_un e]
      split
      · next e => subst e; exact pk_us
      · next e =>
        rw [pk_un e]
        exact hC j (by omega)
theorem i_vc_add {k : Nat} {u : SX} {v : SY} (I : i_Rel k u v) (hk : k + 4 ≤ 2048) (v1 : Int32) (v2 : Int32) (v3 : Int32) : wpX_add (fun r u' => wpY_add (fun r' v' => r' = r ∧ i_Rel (k + 4) u' v') v v1 v2 v3) u v1 v2 v3 := by
  obtain ⟨rc, lsq, lsp, C, β, ρ⟩ := u
  obtain ⟨fc, ff, fl, D⟩ := v
  obtain ⟨n, w, hw, h1, hC, h2, hD⟩ := I
  dsimp only at h1 hC h2 hD
  subst h1 h2
  have hn := hw.1
  obtain ⟨x, rfl, hx⟩ := gz_iXe v1
  obtain ⟨y, rfl, hy⟩ := gz_iXe v2
  obtain ⟨z, rfl, hz⟩ := gz_iXe v3
  unfold wpX_add
  dsimp only
  refine gx_aw (N := 9) hx hy hz (by decide) (fun a1 a2 a3 => br_f (by decide) ?_) (fun hno => br_t rfl ?_)
  · refine pk_lt n 4 (fun hlt => ?_) (fun hge => ?_)
    · have e1 : (nI (3 * n)).toNatClampNeg = 3 * n := gx_cl (by omega)
      have e2 : (nI (3 * n) + 1).toNatClampNeg = 3 * n + 1 := gx_ad (b := 1) (by omega)
      have e3 : (nI (3 * n) + 2).toNatClampNeg = 3 * n + 2 := gx_ad (b := 2) (by omega)
      refine nm_r (gx_3c n) ⟨vp_in_nI (by omega) (by omega), nm_e ⟨gx_vi (b := 1) (by omega) (by omega), nm_e ⟨gx_vi (b := 2) (by omega) (by omega), nm_e (nm_r (nI_1 n) ?_)⟩⟩⟩
      rw [e1, e2, e3]
      unfold wpY_add
      dsimp only
      refine gy_aw (N := 9) hx hy hz (by decide) (fun _ _ _ => br_f (by decide) ?_) (fun hno => absurd ⟨a1, a2, a3⟩ hno)
      refine pk_eq n 4 (fun e => absurd e (by omega)) (fun _ => ?_)
      refine And.intro (gx_v3 (by omega) (by omega)) (nm_e ⟨gx_vi31 (by omega) (by omega), nm_e ⟨gx_vi32 (by omega) (by omega), nm_e (nm_r (nI_1 n) ?_)⟩⟩)
      rw [gx_cl3 (a := n) (by omega), gx_ad31 (a := n) (by omega), gx_ad32 (a := n) (by omega)]
      exact ⟨rfl, gz_mk (gz_w3s hw hlt a1 a2 a3) (gz_w3c hC) (gz_w3c hD)⟩
    · have e : n = 4 := by omega
      subst e
      unfold wpY_add
      dsimp only
      refine gy_aw (N := 9) hx hy hz (by decide) (fun _ _ _ => br_f (by decide) (br_t rfl ⟨rfl, gz_mk hw hC hD⟩)) (fun hno => absurd ⟨a1, a2, a3⟩ hno)
  · unfold wpY_add
    dsimp only
    exact gy_aw (N := 9) hx hy hz (by decide) (fun a1 a2 a3 => absurd ⟨a1, a2, a3⟩ hno) (fun _ => br_t rfl ⟨rfl, gz_mk hw hC hD⟩)
theorem i_vc_remove {k : Nat} {u : SX} {v : SY} (I : i_Rel k u v) (hk : k + 4 ≤ 2048) : wpX_remove (fun r u' => wpY_remove (fun r' v' => r' = r ∧ i_Rel (k + 4) u' v') v) u := by
  obtain ⟨rc, lsq, lsp, C, β, ρ⟩ := u
  obtain ⟨fc, ff, fl, D⟩ := v
  obtain ⟨n, w, hw, h1, hC, h2, hD⟩ := I
  dsimp only at h1 hC h2 hD
  subst h1 h2
  have hn := hw.1
  match n, hw, hC, hD, hn with
  | 0, hw, hC, hD, _ => exact br_t rfl (br_t rfl ⟨rfl, gz_mk hw hC hD⟩)
  | n + 1, hw, hC, hD, hn =>
    have hne : ¬ nI (n + 1) = 0 := nI_ne0 (by omega) (by omega)
    refine br_f hne (nm_r (nI_pred n) (br_f hne (nm_r (nI_pred n) ⟨rfl, gz_mk (w := w) ⟨by omega, fun j hj => hw.2 j (by omega)⟩ (fun j hj => hC j (by omega)) (fun j hj => hD j (by omega))⟩)))
theorem i_vc_rows {k : Nat} {u : SX} {v : SY} (I : i_Rel k u v) (hk : k + 4 ≤ 2048) : wpX_rows (fun r => wpY_rows (fun r' => r' = r ∧ i_Rel (k + 4) u v) v) u := by
  obtain ⟨rc, lsq, lsp, C, β, ρ⟩ := u
  obtain ⟨fc, ff, fl, D⟩ := v
  have J := I
  obtain ⟨n, w, hw, h1, hC, h2, hD⟩ := I
  dsimp only at h1 hC h2 hD
  exact ⟨h2.trans h1.symm, J⟩
def gz_w1 (w : Nat → Int) (i : Nat) (x : Int) : Nat → Int := fun j => if j = i then x else w j
theorem gz_w1c {n i : Nat} {w : Nat → Int} {C : Nat → Int32} {x : Int} (hC : gz_cw n w C) : gz_cw n (gz_w1 w i x) (upd C i (gz_i x)) := by
  intro j hj
  unfold gz_w1
  split
  · next e => subst e; exact pk_us
  · next e => rw [pk_un e]; exact hC j hj
theorem gz_w1s {n i : Nat} {w : Nat → Int} {x : Int} (hw : gz_sw n w) (hx : x.natAbs ≤ 9) : gz_sw n (gz_w1 w i x) := by
  refine ⟨hw.1, fun j hj => ?_⟩
  unfold gz_w1
  split
  · exact hx
  · exact hw.2 j hj
/-- a row number, or not -/
theorem gz_rn (x : Int32) {n : Nat} (hn : n < 2147483648) : (∃ j, j < n ∧ x = nI j) ∨ (x < 0 ∨ (¬ x < 0 ∧ nI n ≤ x)) := by
  by_cases h : x < 0
  · exact Or.inr (Or.inl h)
  · rcases pk_ix x hn with h1 | h1 | h1
    · exact absurd h1 h
    · exact Or.inr (Or.inr ⟨h, h1⟩)
    · exact Or.inl h1
theorem gx_row1 {post : Int32 → Prop} {n j : Nat} {lsq lsp : Int32} {C : Nat → Int32} {β ρ : Nat → Int64} (hj : j < n) (hn : n < 2147483648) (h : post 1) : wpX_isRow post (nI n, lsq, lsp, C, β, ρ) (nI j) :=
  br_f (nI_pos (by omega)) (br_f (nI_ge hj (by omega)) h)
theorem gx_row0 {post : Int32 → Prop} {n : Nat} {x lsq lsp : Int32} {C : Nat → Int32} {β ρ : Nat → Int64} (hx : x < 0 ∨ (¬ x < 0 ∧ nI n ≤ x)) (h : post 0) : wpX_isRow post (nI n, lsq, lsp, C, β, ρ) x := by
  rcases hx with hx | ⟨h1, h2⟩
  · exact br_t hx h
  · exact br_f h1 (br_t h2 h)
theorem gx_col1 {post : Int32 → Prop} {j : Nat} (hj : j < 3) (h : post 1) : wpX_isColumn post (nI j) := br_f (nI_pos (by omega)) (br_f (nI_ge (b := 3) hj (by decide)) h)
theorem gx_col0 {post : Int32 → Prop} {x : Int32} (hx : x < 0 ∨ (¬ x < 0 ∧ nI 3 ≤ x)) (h : post 0) : wpX_isColumn post x := by
  rcases hx with hx | ⟨h1, h2⟩
  · exact br_t hx h
  · exact br_f h1 (br_t h2 h)
theorem gy_col0 {A B : Prop} {x : Int32} (hx : x < 0 ∨ (¬ x < 0 ∧ nI 3 ≤ x)) (h : A) : (x < 0 → A) ∧ (¬ x < 0 → ((2 < x → A) ∧ (¬ 2 < x → B))) := by
  rcases hx with hx | ⟨h1, h2⟩
  · exact br_t hx h
  · refine br_f h1 (br_t ?_ h)
    have e2 : (2 : Int32).toInt = 2 := by decide
    have e3 : (nI 3).toInt = 3 := by decide
    rw [Int32.le_iff_toInt_le, e3] at h2
    rw [Int32.lt_iff_toInt_lt, e2]
    omega
theorem gy_col1 {A B : Prop} {j : Nat} (hj : j < 3) (h : B) : (nI j < 0 → A) ∧ (¬ nI j < 0 → ((2 < nI j → A) ∧ (¬ 2 < nI j → B))) :=
  br_f (nI_pos (by omega)) (br_f (nI_nlt (a := 2) (by omega) (by decide)) h)
theorem gy_col2 {A B : Prop} {x : Int32} (hx : x < 0 ∨ (¬ x < 0 ∧ nI 3 ≤ x)) (h : A) : (x < 0 → A) ∧ (¬ x < 0 → ((x ≤ 2 → B) ∧ (¬ x ≤ 2 → A))) := by
  rcases hx with hx | ⟨h1, h2⟩
  · exact br_t hx h
  · refine br_f h1 (br_f ?_ h)
    have e2 : (2 : Int32).toInt = 2 := by decide
    have e3 : (nI 3).toInt = 3 := by decide
    rw [Int32.le_iff_toInt_le, e3] at h2
    rw [Int32.le_iff_toInt_le, e2]
    omega
theorem gy_col3 {A B : Prop} {j : Nat} (hj : j < 3) (h : B) : (nI j < 0 → A) ∧ (¬ nI j < 0 → ((nI j ≤ 2 → B) ∧ (¬ nI j ≤ 2 → A))) :=
  br_f (nI_pos (by omega)) (br_t (nI_le (b := 2) (by omega) (by decide)) h)
theorem i_vc_set {k : Nat} {u : SX} {v : SY} (I : i_Rel k u v) (hk : k + 4 ≤ 2048) (v1 : Int32) (v2 : Int32) (v3 : Int32) : wpX_set (fun r u' => wpY_set (fun r' v' => r' = r ∧ i_Rel (k + 4) u' v') v v1 v2 v3) u v1 v2 v3 := by
  obtain ⟨rc, lsq, lsp, C, β, ρ⟩ := u
  obtain ⟨fc, ff, fl, D⟩ := v
  obtain ⟨n, w, hw, h1, hC, h2, hD⟩ := I
  dsimp only at h1 hC h2 hD
  subst h1 h2
  have hn := hw.1
  obtain ⟨z, rfl, hz⟩ := gz_iXe v3
  have ok := gz_mk (k := k + 4) (lsq := lsq) (lsp := lsp) (ff := ff) (fl := fl) (β := β) (ρ := ρ) hw hC hD
  unfold wpX_set
  dsimp only
  rcases gz_rn v1 (n := n) (by omega) with ⟨r, hr, rfl⟩ | hr
  · refine gx_row1 hr (by omega) (br_f (by decide) ?_)
    rcases gz_rn v2 (n := 3) (by omega) with ⟨c, hc, rfl⟩ | hc
    · refine gx_col1 hc (br_f (by decide) ?_)
      refine gx_wi (N := 9) hz (by decide) (fun hzb => br_f (by decide) ?_) (fun hno => br_t rfl ?_)
      · have ex : 3 * nI r + nI c = nI (3 * r + c) := by rw [gx_3c, nI_add]
        have e1 : (nI (3 * r + c)).toNatClampNeg = 3 * r + c := gx_cl (by omega)
        refine nm_r ex ⟨vp_in_nI (by omega) (by omega), nm_e ⟨vp_in_nI (by omega) (by omega), nm_e ?_⟩⟩
        rw [e1]
        refine br_f (nI_pos (by omega)) (br_f (nI_ge hr (by omega)) (gy_col1 hc ?_))
        refine gy_wi (N := 9) hz (by decide) (fun _ => br_f (by decide) ?_) (fun hno => absurd hzb hno)
        refine ⟨gx_vi3 (by omega) (by omega), nm_e ⟨gx_vi3 (by omega) (by omega), nm_e ?_⟩⟩
        rw [gx_ad3 (a := r) (b := c) (by omega)]
        refine ⟨?_, gz_mk (gz_w1s hw hzb) (gz_w1c hC) (gz_w1c hD)⟩
        rw [hC _ (show 3 * r + c < 3 * n by omega), hD _ (show 3 * r + c < 3 * n by omega)]
      · exact br_f (nI_pos (by omega)) (br_f (nI_ge hr (by omega)) (gy_col1 hc (gy_wi (N := 9) hz (by decide) (fun h => absurd h hno) (fun _ => br_t rfl ⟨rfl, ok⟩))))
    · exact gx_col0 hc (br_t rfl (br_f (nI_pos (by omega)) (br_f (nI_ge hr (by omega)) (gy_col0 hc ⟨rfl, ok⟩))))
  · refine gx_row0 hr (br_t rfl ?_)
    rcases hr with hr | ⟨hr1, hr2⟩
    · exact br_t hr ⟨rfl, ok⟩
    · exact br_f hr1 (br_t hr2 ⟨rfl, ok⟩)
def gz_sp (c d : Nat) : Nat → (Nat → Int) → (Nat → Int)
  | 0, w => w
  | i + 1, w => fun j => if j = 3 * i + d then gz_sp c d i w (3 * i + c) else if j = 3 * i + c then gz_sp c d i w (3 * i + d) else gz_sp c d i w j
theorem gz_sps {n c d : Nat} {w : Nat → Int} (hw : gz_sw n w) (hc : c < 3) (hd : d < 3) : ∀ i, i ≤ n → gz_sw n (gz_sp c d i w) := by
  intro i
  induction i with
  | zero => exact fun _ => hw
  | succ i ih =>
    intro hi
    have h := ih (by omega)
    refine ⟨hw.1, fun j hj => ?_⟩
    unfold gz_sp
    split
    · exact h.2 _ (by omega)
    · split
      · exact h.2 _ (by omega)
      · exact h.2 j hj
theorem gz_spc {n c d i : Nat} {w : Nat → Int} {C : Nat → Int32} (hi : i < n) (hc : c < 3) (hd : d < 3) (hC : gz_cw n (gz_sp c d i w) C) :
    gz_cw n (gz_sp c d (i + 1) w) (upd (upd C (3 * i + c) (C (3 * i + d))) (3 * i + d) (C (3 * i + c))) := by
  intro j hj
  unfold gz_sp
  split
  · next e => subst e; rw [pk_us]; exact hC _ (by omega)
  · next e =>
    rw [pk_un e]
    split
    · next e => subst e; rw [pk_us]; exact hC _ (by omega)
    · next e => rw [pk_un e]; exact hC j hj
theorem i_vc_swap {k : Nat} {u : SX} {v : SY} (I : i_Rel k u v) (hk : k + 4 ≤ 2048) (v1 : Int32) (v2 : Int32) : wpX_swap (fun r u' => wpY_swap (fun r' v' => r' = r ∧ i_Rel (k + 4) u' v') v v1 v2) u v1 v2 := by
  obtain ⟨rc, lsq, lsp, C, β, ρ⟩ := u
  obtain ⟨fc, ff, fl, D⟩ := v
  obtain ⟨n, w, hw, h1, hC, h2, hD⟩ := I
  dsimp only at h1 hC h2 hD
  subst h1 h2
  have hn := hw.1
  have ok := gz_mk (k := k + 4) (lsq := lsq) (lsp := lsp) (ff := ff) (fl := fl) (β := β) (ρ := ρ) hw hC hD
  unfold wpX_swap
  dsimp only
  rcases gz_rn v1 (n := 3) (by omega) with ⟨c, hc, rfl⟩ | hc
  · refine gx_col1 hc (br_f (by decide) ?_)
    rcases gz_rn v2 (n := 3) (by omega) with ⟨d, hd, rfl⟩ | hd
    · refine gx_col1 hd (br_f (by decide) ?_)
      refine loop_0 (fun m i (E : Nat → Int32) => wX_swap_18 (fun r u' => wpY_swap (fun r' v' => r' = r ∧ i_Rel (k + 4) u' v') (nI n, ff, fl, D) (nI c) (nI d)) (nI c) (nI d) (nI n) lsq lsp m (nI i) E β ρ)
        (fun i E => gz_cw n (gz_sp c d i w) E) n C hC ?_ ?_
      · intro m E hE
        refine br_t (nI_le (Nat.le_refl n) (by omega)) (gy_col1 hc (gy_col3 hd ?_))
        refine loop_0 (fun m i (F : Nat → Int32) => wY_swap_22 (fun r' v' => r' = nI n ∧ i_Rel (k + 4) (nI n, lsq, lsp, E, β, ρ) v') (nI c) (nI d) (nI n) ff fl m (nI i) F)
          (fun i F => gz_cw n (gz_sp c d i w) F) n D hD ?_ ?_
        · intro m F hF
          exact br_t (nI_le (Nat.le_refl n) (by omega)) ⟨rfl, gz_mk (gz_sps hw hc hd n (Nat.le_refl n)) hE hF⟩
        · intro m i F hi hF K
          have vc : vp_in (3 * nI i + nI c) 15 := gx_vi3 (by omega) (by omega)
          have vd : vp_in (3 * nI i + nI d) 15 := gx_vi3 (by omega) (by omega)
          refine br_f (nI_ge hi (by omega)) ⟨vc, nm_e ⟨vd, vc, nm_e ⟨vd, nm_e (nm_r (nI_1 i) (K _ ?_))⟩⟩⟩
          rw [gx_ad3 (a := i) (b := c) (by omega), gx_ad3 (a := i) (b := d) (by omega)]
          exact gz_spc hi hc hd hF
      · intro m i E hi hE K
        have vc : vp_in (nI (3 * i) + nI c) 12 := gx_vi (by omega) (by omega)
        have vd : vp_in (nI (3 * i) + nI d) 12 := gx_vi (by omega) (by omega)
        refine br_f (nI_ge hi (by omega)) (nm_r (gx_3c i) ⟨vc, nm_e ⟨vd, vc, nm_e ⟨vd, nm_e (nm_r (nI_1 i) (K _ ?_))⟩⟩⟩)
        rw [gx_ad (a := 3 * i) (b := c) (by omega), gx_ad (a := 3 * i) (b := d) (by omega)]
        exact gz_spc hi hc hd hE
    · exact gx_col0 hd (br_t rfl (gy_col1 hc (gy_col2 hd ⟨rfl, ok⟩)))
  · exact gx_col0 hc (br_t rfl (gy_col0 hc ⟨rfl, ok⟩))
end
section
/-! rank, divisor, shape -/
section
variable {post : Int32 → Prop} {lsq lsp : Int32} {C : Nat → Int32} {β ρ : Nat → Int64} {n : Nat} {w : Nat → Int}
theorem gx_mi (hw : gz_sw n w) (hC : gz_cw n w C) (r s c d : Nat) (hr : r < n) (hs : s < n) (hc : c < 3) (hd : d < 3)
    (h : post (gz_i (w (3 * r + c) * w (3 * s + d) - w (3 * r + d) * w (3 * s + c)))) : wpX_pairMinor post (nI n, lsq, lsp, C, β, ρ) (nI r) (nI s) (nI c) (nI d) := by
  have hn := hw.1
  refine nm_r (gx_3c r) (nm_r (gx_3c s) ⟨gx_vi (by omega) (by omega), gx_vi (by omega) (by omega), gx_vi (by omega) (by omega), gx_vi (by omega) (by omega), ?_⟩)
  rw [gx_ad (a := 3 * r) (b := c) (by omega), gx_ad (a := 3 * s) (b := d) (by omega), gx_ad (a := 3 * r) (b := d) (by omega), gx_ad (a := 3 * s) (b := c) (by omega),
    hC (3 * r + c) (by omega), hC (3 * s + d) (by omega), hC (3 * r + d) (by omega), hC (3 * s + c) (by omega), gz_im, gz_im, gz_is]
  exact h
theorem gx_xy (hw : gz_sw n w) (hC : gz_cw n w C) {r s : Nat} (hr : r < n) (hs : s < n) (h : post (gz_i (gz_xy (gz_ro w r) (gz_ro w s)))) : wpX_pairMinor post (nI n, lsq, lsp, C, β, ρ) (nI r) (nI s) 0 1 :=
  gx_mi hw hC r s 0 1 hr hs (by decide) (by decide) h
theorem gx_xz (hw : gz_sw n w) (hC : gz_cw n w C) {r s : Nat} (hr : r < n) (hs : s < n) (h : post (gz_i (gz_xz (gz_ro w r) (gz_ro w s)))) : wpX_pairMinor post (nI n, lsq, lsp, C, β, ρ) (nI r) (nI s) 0 2 :=
  gx_mi hw hC r s 0 2 hr hs (by decide) (by decide) h
theorem gx_yz (hw : gz_sw n w) (hC : gz_cw n w C) {r s : Nat} (hr : r < n) (hs : s < n) (h : post (gz_i (gz_yz (gz_ro w r) (gz_ro w s)))) : wpX_pairMinor post (nI n, lsq, lsp, C, β, ρ) (nI r) (nI s) 1 2 :=
  gx_mi hw hC r s 1 2 hr hs (by decide) (by decide) h
theorem gx_dt (hw : gz_sw n w) (hC : gz_cw n w C) {r s t : Nat} (hr : r < n) (hs : s < n) (ht : t < n) (h : post (gz_i (gz_dt (gz_ro w r) (gz_ro w s) (gz_ro w t)))) :
    wpX_tripleMinor post (nI n, lsq, lsp, C, β, ρ) (nI r) (nI s) (nI t) := by
  have hn := hw.1
  refine nm_r (gx_3c r) (gx_yz hw hC hs ht (gx_xz hw hC hs ht (gx_xy hw hC hs ht ?_)))
  refine ⟨vp_in_nI (by omega) (by omega), gx_vi (b := 1) (by omega) (by omega), gx_vi (b := 2) (by omega) (by omega), ?_⟩
  have e0 : (nI (3 * r)).toNatClampNeg = 3 * r := gx_cl (by omega)
  have e1 : (nI (3 * r) + 1).toNatClampNeg = 3 * r + 1 := gx_ad (b := 1) (by omega)
  have e2 : (nI (3 * r) + 2).toNatClampNeg = 3 * r + 2 := gx_ad (b := 2) (by omega)
  rw [e0, e1, e2, hC (3 * r) (by omega), hC (3 * r + 1) (by omega), hC (3 * r + 2) (by omega), gz_im, gz_im, gz_im, gz_is, gz_ia]
  exact h
theorem gx_D1 (hw : gz_sw n w) (hC : gz_cw n w C) (h : ∀ g : Int, 0 ≤ g → g ≤ 4374 → gz_D 1 (gz_R w (-1) n) g → post (gz_i g)) : wpX_divisorOfNumbers post (nI n, lsq, lsp, C, β, ρ) := by
  have hn := hw.1
  refine loop_0 (fun m i (g : Int) => wX_divisorOfNumbers_4 post (nI n) lsq lsp C β ρ m (gz_i g) (nI i)) (fun i g => 0 ≤ g ∧ g.natAbs ≤ 9 ∧ ∀ d, d ∣ g ↔ ∀ j, j < i → d ∣ w j) (3 * n) 0
    ⟨by decide, by decide, fun d => ⟨fun _ j hj => absurd hj (by omega), fun _ => Int.dvd_zero d⟩⟩ ?_ ?_
  · intro m g ⟨h1, h2, h3⟩
    refine br_t (by rw [gx_3c]; exact nI_le (Nat.le_refl _) (by omega)) (h g h1 (by omega) ⟨h1, fun d => (h3 d).trans ?_⟩)
    refine Iff.trans ?_ (gz_M1o (N := n) (B := fun r => ¬ nI r = (-1 : Int32)) (row := gz_ro w)).symm
    constructor
    · intro x r hr _
      exact ⟨x _ (by omega), x _ (by omega), x _ (by omega)⟩
    · intro x j hj
      obtain ⟨y1, y2, y3⟩ := x (j / 3) (by omega) (gy_lo _ (by omega))
      have e : j = 3 * (j / 3) ∨ j = 3 * (j / 3) + 1 ∨ j = 3 * (j / 3) + 2 := by omega
      rcases e with e | e | e
      · rw [e]; exact y1
      · rw [e]; exact y2
      · rw [e]; exact y3
  · intro m i g hi ⟨h1, h2, h3⟩ K
    have wb := hw.2 i hi
    refine br_f (by rw [gx_3c]; exact nI_ge hi (by omega)) ⟨vp_in_nI (by omega) (by omega), ?_⟩
    rw [gx_cl (a := i) (by omega), hC i hi]
    refine gx_gcd (by omega) (by omega) (nm_r (nI_1 i) (K _ ⟨Int.natCast_nonneg _, by rw [gz_nng]; exact gz_gle h2 wb, fun d => ?_⟩))
    rw [Int.dvd_coe_gcd_iff, h3]
    constructor
    · intro ⟨x1, x2⟩ j hj
      by_cases e : j = i
      · subst e; exact x2
      · exact x1 j (by omega)
    · intro x
      exact ⟨fun j hj => x j (by omega), x i (by omega)⟩
theorem gz_sw2 (hw : gz_sw n w) {r s : Nat} (hr : r < n) (hs : s < n) : (gz_xy (gz_ro w r) (gz_ro w s)).natAbs ≤ 162 ∧ (gz_xz (gz_ro w r) (gz_ro w s)).natAbs ≤ 162 ∧ (gz_yz (gz_ro w r) (gz_ro w s)).natAbs ≤ 162 :=
  gz_sm2 (gz_Rs (lo := -1) hw (Nat.le_refl n)) (gy_Rm hw hr) (gy_Rm hw hs)
def gz_d2 (w : Nat → Int) (d : Int) (q r : Nat) : Prop := d ∣ gz_xy (gz_ro w q) (gz_ro w r) ∧ d ∣ gz_xz (gz_ro w q) (gz_ro w r) ∧ d ∣ gz_yz (gz_ro w q) (gz_ro w r)
theorem gz_d2s {d : Int} {q r : Nat} (h : gz_d2 w d q r) : gz_d2 w d r q :=
  ⟨gz_dng h.1 (by simp only [gz_xy]; grind), gz_dng h.2.1 (by simp only [gz_xz]; grind), gz_dng h.2.2 (by simp only [gz_yz]; grind)⟩
theorem gx_D2 (hw : gz_sw n w) (hC : gz_cw n w C) (h : ∀ g : Int, 0 ≤ g → g ≤ 4374 → gz_D 2 (gz_R w (-1) n) g → post (gz_i g)) : wpX_divisorOfPairs post (nI n, lsq, lsp, C, β, ρ) := by
  have hn := hw.1
  refine loop_0 (fun m q (g : Int) => wX_divisorOfPairs_4 post (nI n) lsq lsp C β ρ m (gz_i g) (nI q)) (fun q g => 0 ≤ g ∧ g.natAbs ≤ 162 ∧ ∀ d, d ∣ g ↔ ∀ q', q' < q → ∀ r, q' < r → r < n → gz_d2 w d q' r) n 0
    ⟨by decide, by decide, fun d => ⟨fun _ j hj => absurd hj (by omega), fun _ => Int.dvd_zero d⟩⟩ ?_ ?_
  · intro m g ⟨h1, h2, h3⟩
    refine br_t (nI_le (Nat.le_refl _) (by omega)) (h g h1 (by omega) ⟨h1, fun d => (h3 d).trans ?_⟩)
    refine Iff.trans ?_ (gz_M2o (N := n) (B := fun r => ¬ nI r = (-1 : Int32)) (row := gz_ro w)).symm
    exact ⟨fun x r hr _ s hs _ => gz_d2s (x s (by omega) r hs hr), fun x q hq r hqr hr => gz_d2s (x r hr (gy_lo _ (by omega)) q hqr (gy_lo _ (by omega)))⟩
  · intro m q g hq ⟨h1, h2, h3⟩ K
    refine br_f (nI_ge hq (by omega)) (nm_r (nI_1 q) ?_)
    refine pk_loop (fun m2 r (g : Int) => wX_divisorOfPairs_16 post (wX_divisorOfPairs_4 post (nI n) lsq lsp C β ρ m) (nI q) (nI n) lsq lsp C β ρ m2 (gz_i g) (nI r))
      (fun r g => q < r ∧ 0 ≤ g ∧ g.natAbs ≤ 162 ∧ ∀ d, d ∣ g ↔ (∀ q', q' < q → ∀ r, q' < r → r < n → gz_d2 w d q' r) ∧ ∀ r', q < r' → r' < r → gz_d2 w d q r') n (q + 1) g (by omega)
      ⟨by omega, h1, h2, fun d => (h3 d).trans ⟨fun x => ⟨x, fun r a b => absurd a (by omega)⟩, fun x => x.1⟩⟩ ?_ ?_
    · intro m2 g ⟨_, a1, a2, a3⟩
      refine br_t (nI_le (Nat.le_refl _) (by omega)) (nm_r (nI_1 q) (K g ⟨a1, a2, fun d => (a3 d).trans ?_⟩))
      constructor
      · intro ⟨x1, x2⟩ q' hq' r hr1 hr2
        by_cases e : q' = q
        · subst e; exact x2 r hr1 hr2
        · exact x1 q' (by omega) r hr1 hr2
      · intro x
        exact ⟨fun q' hq' => x q' (by omega), fun r a b => x q (by omega) r a b⟩
    · intro m2 r g hr ⟨hqr, a1, a2, a3⟩ K2
      · obtain ⟨b1, b2, b3⟩ := gz_sw2 hw hq hr
        have c1 := gz_gle a2 b1
        have c2 := gz_gle (g := (Int.gcd g (gz_xy (gz_ro w q) (gz_ro w r)) : Int)) (by rw [gz_nng]; exact c1) b2
        have c3 := gz_gle (g := (Int.gcd (Int.gcd g (gz_xy (gz_ro w q) (gz_ro w r)) : Int) (gz_xz (gz_ro w q) (gz_ro w r)) : Int)) (by rw [gz_nng]; exact c2) b3
        refine br_f (nI_ge hr (by omega)) (gx_xy hw hC hq hr (gx_xz hw hC hq hr (gx_yz hw hC hq hr ?_)))
        refine gx_gcd (by omega) (by omega) (gx_gcd (by rw [gz_nng]; omega) (by omega) (gx_gcd (by rw [gz_nng]; omega) (by omega) (nm_r (nI_1 r) (K2 _ ⟨by omega, Int.natCast_nonneg _, by rw [gz_nng]; exact c3, fun d => ?_⟩))))
        rw [Int.dvd_coe_gcd_iff, Int.dvd_coe_gcd_iff, Int.dvd_coe_gcd_iff, a3]
        constructor
        · intro ⟨⟨⟨⟨x1, x2⟩, x3⟩, x4⟩, x5⟩
          refine ⟨x1, fun r' y1 y2 => ?_⟩
          by_cases e : r' = r
          · subst e; exact ⟨x3, x4, x5⟩
          · exact x2 r' y1 (by omega)
        · intro ⟨x1, x2⟩
          obtain ⟨y1, y2, y3⟩ := x2 r hqr (by omega)
          exact ⟨⟨⟨⟨x1, fun r' z1 z2 => x2 r' z1 (by omega)⟩, y1⟩, y2⟩, y3⟩
theorem gx_D3 (hw : gz_sw n w) (hC : gz_cw n w C) (h : ∀ g : Int, 0 ≤ g → g ≤ 4374 → gz_D 3 (gz_R w (-1) n) g → post (gz_i g)) : wpX_divisorOfTriples post (nI n, lsq, lsp, C, β, ρ) := by
  have hn := hw.1
  have sm3 : ∀ p q r, p < n → q < n → r < n → (gz_dt (gz_ro w p) (gz_ro w q) (gz_ro w r)).natAbs ≤ 4374 := fun p q r hp hq hr =>
    gz_sm3 (gz_Rs (lo := -1) hw (Nat.le_refl n)) (gy_Rm hw hp) (gy_Rm hw hq) (gy_Rm hw hr)
  refine loop_0 (fun m p (g : Int) => wX_divisorOfTriples_4 post (nI n) lsq lsp C β ρ m (gz_i g) (nI p))
    (fun p g => 0 ≤ g ∧ g.natAbs ≤ 4374 ∧ ∀ d, d ∣ g ↔ ∀ p', p' < p → ∀ q, p' < q → q < n → ∀ r, q < r → r < n → d ∣ gz_dt (gz_ro w p') (gz_ro w q) (gz_ro w r)) n 0
    ⟨by decide, by decide, fun d => ⟨fun _ j hj => absurd hj (by omega), fun _ => Int.dvd_zero d⟩⟩ ?_ ?_
  · intro m g ⟨h1, h2, h3⟩
    refine br_t (nI_le (Nat.le_refl _) (by omega)) (h g h1 (by omega) ⟨h1, fun d => (h3 d).trans ?_⟩)
    refine Iff.trans ?_ (gz_M3o (N := n) (B := fun r => ¬ nI r = (-1 : Int32)) (row := gz_ro w)).symm
    exact ⟨fun x r hr _ s hs _ t ht _ => gz_dng (x t (by omega) s ht (by omega) r hs hr) (gz_dtA _ _ _).2.2.1,
      fun x p hp q hpq hq r hqr hr => gz_dng (x r hr (gy_lo _ (by omega)) q hqr (gy_lo _ (by omega)) p hpq (gy_lo _ (by omega))) (gz_dtA _ _ _).2.2.1⟩
  · intro m p g hp ⟨h1, h2, h3⟩ K
    refine br_f (nI_ge hp (by omega)) (nm_r (nI_1 p) ?_)
    refine pk_loop (fun m2 q (g : Int) => wX_divisorOfTriples_16 post (wX_divisorOfTriples_4 post (nI n) lsq lsp C β ρ m) (nI p) (nI n) lsq lsp C β ρ m2 (gz_i g) (nI q))
      (fun q g => p < q ∧ 0 ≤ g ∧ g.natAbs ≤ 4374 ∧ ∀ d, d ∣ g ↔ (∀ p', p' < p → ∀ q, p' < q → q < n → ∀ r, q < r → r < n → d ∣ gz_dt (gz_ro w p') (gz_ro w q) (gz_ro w r)) ∧
        ∀ q', p < q' → q' < q → ∀ r, q' < r → r < n → d ∣ gz_dt (gz_ro w p) (gz_ro w q') (gz_ro w r)) n (p + 1) g (by omega)
      ⟨by omega, h1, h2, fun d => (h3 d).trans ⟨fun x => ⟨x, fun r a b => absurd a (by omega)⟩, fun x => x.1⟩⟩ ?_ ?_
    · intro m2 g ⟨_, a1, a2, a3⟩
      refine br_t (nI_le (Nat.le_refl _) (by omega)) (nm_r (nI_1 p) (K g ⟨a1, a2, fun d => (a3 d).trans ?_⟩))
      constructor
      · intro ⟨x1, x2⟩ p' hp' q hq1 hq2
        by_cases e : p' = p
        · subst e; exact x2 q hq1 hq2
        · exact x1 p' (by omega) q hq1 hq2
      · intro x
        exact ⟨fun q' hq' => x q' (by omega), fun r a b => x p (by omega) r a b⟩
    · intro m2 q g hq ⟨hpq, a1, a2, a3⟩ K2
      refine br_f (nI_ge hq (by omega)) (nm_r (nI_1 q) ?_)
      refine pk_loop (fun m3 r (g : Int) => wX_divisorOfTriples_29 post (wX_divisorOfTriples_4 post (nI n) lsq lsp C β ρ m) (wX_divisorOfTriples_16 post (wX_divisorOfTriples_4 post (nI n) lsq lsp C β ρ m) (nI p) (nI n) lsq lsp C β ρ m2) (nI p) (nI q) (nI n) lsq lsp C β ρ m3 (gz_i g) (nI r))
        (fun r g' => q < r ∧ 0 ≤ g' ∧ g'.natAbs ≤ 4374 ∧ ∀ d, d ∣ g' ↔ d ∣ g ∧ ∀ r', q < r' → r' < r → d ∣ gz_dt (gz_ro w p) (gz_ro w q) (gz_ro w r')) n (q + 1) g (by omega)
        ⟨by omega, a1, a2, fun d => ⟨fun x => ⟨x, fun r a b => absurd a (by omega)⟩, fun x => x.1⟩⟩ ?_ ?_
      · intro m3 g' ⟨_, b1, b2, b3⟩
        refine br_t (nI_le (Nat.le_refl _) (by omega)) (nm_r (nI_1 q) (K2 g' ⟨by omega, b1, b2, fun d => ?_⟩))
        rw [b3, a3]
        constructor
        · intro ⟨⟨x1, x2⟩, x3⟩
          refine ⟨x1, fun q' y1 y2 r y3 y4 => ?_⟩
          by_cases e : q' = q
          · subst e; exact x3 r y3 y4
          · exact x2 q' y1 (by omega) r y3 y4
        · intro ⟨x1, x2⟩
          exact ⟨⟨x1, fun q' y1 y2 => x2 q' y1 (by omega)⟩, fun r y1 y2 => x2 q hpq (by omega) r y1 y2⟩
      · intro m3 r g' hr ⟨hqr, b1, b2, b3⟩ K3
        have c := sm3 p q r hp hq hr
        refine br_f (nI_ge hr (by omega)) (gx_dt hw hC hp hq hr (gx_gcd (by omega) (by omega) (nm_r (nI_1 r) (K3 _ ⟨by omega, Int.natCast_nonneg _, by rw [gz_nng]; exact gz_gle b2 c, fun d => ?_⟩))))
        rw [Int.dvd_coe_gcd_iff, b3]
        constructor
        · intro ⟨⟨x1, x2⟩, x3⟩
          refine ⟨x1, fun r' y1 y2 => ?_⟩
          by_cases e : r' = r
          · subst e; exact x3
          · exact x2 r' y1 (by omega)
        · intro ⟨x1, x2⟩
          exact ⟨⟨x1, fun r' y1 y2 => x2 r' y1 (by omega)⟩, x2 r hqr (by omega)⟩
theorem gx_dv {k : Nat} (hw : gz_sw n w) (hC : gz_cw n w C) (hk : k ≤ 3) (h : ∀ g : Int, 0 ≤ g → g ≤ 4374 → gz_D k (gz_R w (-1) n) g → post (gz_i g)) : wpX_divisor post (nI n, lsq, lsp, C, β, ρ) (nI k) := by
  have h4 : k = 0 ∨ k = 1 ∨ k = 2 ∨ k = 3 := by omega
  rcases h4 with rfl | rfl | rfl | rfl
  · exact br_f (by decide) (br_f (by decide) (br_t rfl (h 1 (by decide) (by decide) (gz_Dk0 _))))
  · exact br_f (by decide) (br_f (by decide) (br_f (by decide) (br_t rfl (gx_D1 hw hC h))))
  · exact br_f (by decide) (br_f (by decide) (br_f (by decide) (br_f (by decide) (br_t rfl (gx_D2 hw hC h)))))
  · exact br_f (by decide) (br_f (by decide) (br_f (by decide) (br_f (by decide) (br_f (by decide) (br_t rfl (gx_D3 hw hC h))))))
theorem gz_pr3 (G : gz_V → Prop) : gz_pr 3 G = G :=
  gz_Ge (fun u => ⟨fun ⟨v, hv, e⟩ => by rw [e, gz_pj3]; exact hv, fun h => ⟨u, h, (gz_pj3 u).symm⟩⟩)
theorem gy_smA {D : Nat → Int32} (hw : gz_sw n w) (hD : gz_cw n w D) : gy_sm (gy_mk n) D := by
  have hn := hw.1
  intro r hr hb
  obtain ⟨k1, _⟩ := (gy_bA hn r hr).1 hb
  rw [gy_ro hw hD k1]
  have a1 := hw.2 (3 * r) (by omega)
  have a2 := hw.2 (3 * r + 1) (by omega)
  have a3 := hw.2 (3 * r + 2) (by omega)
  exact ⟨Nat.le_trans a1 (by decide), Nat.le_trans a2 (by decide), Nat.le_trans a3 (by decide), fun _ => ⟨a1, a2, a3⟩⟩
theorem gy_G3 {D : Nat → Int32} (hw : gz_sw n w) (hD : gz_cw n w D) : gz_G 5 (gz_bit (gy_mk n)) (gy_row 3 D) = gz_R w (-1) n := by
  rw [← gz_pr3 (gz_R w (-1) n)]
  exact gz_Ge (gy_st1 hw hD (gy_bA hw.1))
theorem gy_dv {ff fl : Int32} {D : Nat → Int32} {k : Nat} (hw : gz_sw n w) (hD : gz_cw n w D) (hk : k ≤ 3) (h : ∀ g : Int, 0 ≤ g → g ≤ 2430000 → gz_D k (gz_R w (-1) n) g → post (gz_i g)) : wpY_divisor post (nI n, ff, fl, D) (nI k) := by
  unfold wpY_divisor
  dsimp only
  refine gy_all (br_f (nI_pos (by omega)) (br_t (nI_le (b := 3) hk (by decide)) (gy_div (cols := 3) (gy_smA hw hD) hk (by decide) (by decide) ?_)))
  rw [gy_G3 hw hD]
  exact h
theorem gy_rk {ff fl : Int32} {D : Nat → Int32} (hw : gz_sw n w) (hD : gz_cw n w D) (h : ∀ r : Nat, gz_Rk (gz_R w (-1) n) r → post (nI r)) : wpY_rank post (nI n, ff, fl, D) := by
  unfold wpY_rank
  dsimp only
  refine gy_all (gy_rank (cols := 3) (gy_smA hw hD) (by decide) (by decide) ?_)
  rw [gy_G3 hw hD]
  exact h
end
theorem gz_Mup {G : gz_V → Prop} {k r : Nat} (hr : r ≤ 3) (hk : k ≤ r) (h : gz_M k G (fun x => (0 : Int) ∣ x)) : gz_M r G (fun x => (0 : Int) ∣ x) := by
  have key : ∀ j, k + j ≤ 3 → gz_M (k + j) G (fun x => (0 : Int) ∣ x) := by
    intro j
    induction j with
    | zero => exact fun _ => h
    | succ j ih => exact fun hj => gz_Mz (ih (by omega))
  have e : r = k + (r - k) := by omega
  rw [e]
  exact key _ (by omega)
theorem gz_k4 (x : Int32) : (∃ k, k ≤ 3 ∧ x = nI k) ∨ (x < 0 ∨ (¬ x < 0 ∧ nI 4 ≤ x)) := by
  rcases gz_rn x (n := 4) (by omega) with ⟨k, hk, e⟩ | h
  · exact Or.inl ⟨k, by omega, e⟩
  · exact Or.inr h
theorem gz_gt {x : Int32} {a b : Nat} (h : nI a ≤ x) (hab : b < a) (ha : a < 2147483648) : nI b < x ∧ ¬ x ≤ nI b ∧ ¬ x < nI a := by
  rw [Int32.le_iff_toInt_le, nI_toInt (by omega)] at h
  rw [Int32.lt_iff_toInt_lt, Int32.le_iff_toInt_le, Int32.lt_iff_toInt_lt, nI_toInt (by omega), nI_toInt (by omega)]
  omega
theorem i_vc_divisor {k : Nat} {u : SX} {v : SY} (I : i_Rel k u v) (hk : k + 4 ≤ 2048) (v1 : Int32) : wpX_divisor (fun r => wpY_divisor (fun r' => r' = r ∧ i_Rel (k + 4) u v) v v1) u v1 := by
  have J : i_Rel (k + 4) u v := I
  obtain ⟨rc, lsq, lsp, C, β, ρ⟩ := u
  obtain ⟨fc, ff, fl, D⟩ := v
  obtain ⟨n, w, hw, h1, hC, h2, hD⟩ := I
  dsimp only at h1 hC h2 hD
  subst h1 h2
  rcases gz_k4 v1 with ⟨j, hj, rfl⟩ | h | ⟨h1, h2⟩
  · refine gx_dv hw hC hj ?_
    intro g g1 g2 g3
    refine gy_dv hw hD hj ?_
    intro g' a1 a2 a3
    exact ⟨gz_iq (gz_Du a3 g3), J⟩
  · exact br_t h (br_t h ⟨rfl, J⟩)
  · have x := gz_gt (b := 3) h2 (by decide) (by decide)
    exact br_f h1 (br_t x.1 (br_f h1 (br_f x.2.1 ⟨rfl, J⟩)))
theorem i_vc_shape {k : Nat} {u : SX} {v : SY} (I : i_Rel k u v) (hk : k + 4 ≤ 2048) (v1 : Int32) : wpX_shape (fun r => wpY_shape (fun r' => r' = r ∧ i_Rel (k + 4) u v) v v1) u v1 := by
  have J : i_Rel (k + 4) u v := I
  obtain ⟨rc, lsq, lsp, C, β, ρ⟩ := u
  obtain ⟨fc, ff, fl, D⟩ := v
  obtain ⟨n, w, hw, h1, hC, h2, hD⟩ := I
  dsimp only at h1 hC h2 hD
  subst h1 h2
  rcases gz_k4 v1 with ⟨j, hj, rfl⟩ | h | ⟨h1, h2⟩
  · by_cases j0 : j = 0
    · subst j0
      exact br_t (by decide) (br_t (by decide) ⟨rfl, J⟩)
    · have n1 : ¬ nI j < 1 := nI_nlt (b := 1) (by omega) (by omega)
      have ep : nI j - 1 = nI (j - 1) := pk_sub (b := 1) (by omega)
      refine br_f n1 (br_t (nI_le (b := 3) hj (by decide)) ?_)
      refine gx_dv hw hC hj ?_
      intro g g1 g2 g3
      rw [ep]
      refine gx_dv hw hC (by omega) ?_
      intro f f1 f2 f3
      have up : ∀ r, gz_Rk (gz_R w (-1) n) r → (j ≤ r ↔ g ≠ 0) ∧ (j ≤ r → f ≠ 0) := by
        intro r hr
        have hf : j ≤ r → f ≠ 0 := fun hjr e => hr.2.1 (gz_Mup hr.1 (by omega) ((gz_D0 f3).1 e))
        refine ⟨⟨fun hjr e => hr.2.1 (gz_Mup hr.1 hjr ((gz_D0 g3).1 e)), fun hne => ?_⟩, hf⟩
        by_cases hjr : j ≤ r
        · exact hjr
        · exact absurd ((gz_D0 g3).2 (hr.2.2 j (by omega) hj)) hne
      have noneY : g = 0 ∨ f = 0 → wpY_shape (fun r' => r' = -1000000 ∧ i_Rel (k + 4) (nI n, lsq, lsp, C, β, ρ) (nI n, ff, fl, D)) (nI n, ff, fl, D) (nI j) := by
        intro hz
        refine br_f n1 (gy_rk hw hD ?_)
        intro r hr
        have hr3 := hr.1
        obtain ⟨u1, u2⟩ := up r hr
        refine pk_le j r (fun hle => ?_) (fun _ => ⟨rfl, J⟩)
        rcases hz with hz | hz
        · exact absurd hz (u1.1 hle)
        · exact absurd hz (u2 hle)
      refine gz_be g 0 (fun e => noneY (Or.inl e)) (fun ge => gz_be f 0 (fun e => noneY (Or.inr e)) (fun fe => ?_))
      have fne : ¬ gz_i f = 0 := fun e => fe ((gz_iE (b := 0)).1 e)
      refine ⟨fne, br_f n1 (gy_rk hw hD ?_)⟩
      intro r hr
      have hr3 := hr.1
      obtain ⟨u1, u2⟩ := up r hr
      refine pk_le j r (fun hle => ?_) (fun hlt => absurd (u1.2 ge) (by omega))
      refine gy_dv hw hD hj ?_
      intro g' a1 a2 a3
      rw [ep]
      refine gy_dv hw hD (by omega) ?_
      intro f' b1 b2 b3
      have e1 := gz_Du a3 g3
      have e2 := gz_Du b3 f3
      subst e1 e2
      exact ⟨fne, rfl, J⟩
  · have x1 : v1 < 1 := by
      have e0 : (0 : Int32).toInt = 0 := by decide
      have e1 : (1 : Int32).toInt = 1 := by decide
      rw [Int32.lt_iff_toInt_lt, e0] at h
      rw [Int32.lt_iff_toInt_lt, e1]
      omega
    exact br_t x1 (br_t x1 ⟨rfl, J⟩)
  · have x := gz_gt (b := 3) h2 (by decide) (by decide)
    have x1 : ¬ v1 < 1 := by
      intro h
      have e1 : (1 : Int32).toInt = 1 := by decide
      have e4 : (nI 4).toInt = 4 := by decide
      rw [Int32.lt_iff_toInt_lt, e1] at h
      rw [Int32.le_iff_toInt_le, e4] at h2
      omega
    refine br_f x1 (br_f x.2.1 (br_f x1 (gy_rk hw hD ?_)))
    intro r hr
    have hr3 := hr.1
    exact br_f (gz_gt (b := r) h2 (by omega) (by decide)).2.1 ⟨rfl, J⟩
end
section
/-! rank, has, order, step, corner, spare -/
theorem gz_bB {n : Nat} {w : Nat → Int} {lo : Int32} {a p q b s c : Int} (hw : gz_sw n w) (hs : ∀ v, gz_Sp (gz_B a p q b s c) v ↔ gz_Sp (gz_R w lo n) v) (hH : gz_H a p q b s c) : gz_Bd a p q b s c :=
  gz_bd (gz_Rs hw (Nat.le_refl n)) hs hH
theorem gx_dgs {β : Nat → Int64} {a p q b s c : Int} (hb : gz_bs β a p q b s c) {i : Nat} (hi : i < 3) : β (3 * i + i) = gz_l (gy_dg a b c i) := by
  have h3 : i = 0 ∨ i = 1 ∨ i = 2 := by omega
  rcases h3 with rfl | rfl | rfl
  · exact hb.1
  · exact hb.2.2.2.2.1
  · exact hb.2.2.2.2.2.2.2.2
theorem gx_ens {β : Nat → Int64} {a p q b s c : Int} (hb : gz_bs β a p q b s c) {i j : Nat} (hi : i < 3) (hj : j < 3) : β (3 * i + j) = gz_l (gy_en a p q b s c i j) := by
  obtain ⟨b0, b1, b2, b3, b4, b5, b6, b7, b8⟩ := hb
  have h3 : i = 0 ∨ i = 1 ∨ i = 2 := by omega
  have k3 : j = 0 ∨ j = 1 ∨ j = 2 := by omega
  rcases h3 with rfl | rfl | rfl <;> rcases k3 with rfl | rfl | rfl
  · exact b0
  · exact b1
  · exact b2
  · exact b3
  · exact b4
  · exact b5
  · exact b6
  · exact b7
  · exact b8
theorem gx_dgb {a p q b s c : Int} (hH : gz_H a p q b s c) (hB : gz_Bd a p q b s c) (i : Nat) : 0 ≤ gy_dg a b c i ∧ gy_dg a b c i ≤ 4374 := by
  obtain ⟨_, g1, g2, g3, _, _⟩ := hH
  obtain ⟨k1, k2, k3, _⟩ := hB
  unfold gy_dg
  split
  · exact ⟨g1, by omega⟩
  · exact ⟨g2, by omega⟩
  · exact ⟨g3, k3⟩
theorem gx_enb {a p q b s c : Int} (hH : gz_H a p q b s c) (hB : gz_Bd a p q b s c) (i j : Nat) : (gy_en a p q b s c i j).natAbs ≤ 26406 := by
  obtain ⟨_, g1, g2, g3, _, _⟩ := hH
  obtain ⟨k1, k2, k3, k4, k5, k6⟩ := hB
  unfold gy_en
  split <;> omega
theorem i_vc_rank {k : Nat} {u : SX} {v : SY} (I : i_Rel k u v) (hk : k + 4 ≤ 2048) : wpX_rank (fun r u' => wpY_rank (fun r' => r' = r ∧ i_Rel (k + 4) u' v) v) u := by
  obtain ⟨rc, lsq, lsp, C, β, ρ⟩ := u
  obtain ⟨fc, ff, fl, D⟩ := v
  obtain ⟨n, w, hw, h1, hC, h2, hD⟩ := I
  dsimp only at h1 hC h2 hD
  subst h1 h2
  unfold wpX_rank
  dsimp only
  refine gx_span hw hC ?_
  intro β' ρ' a p q b s c hb hs hH
  have hB := gz_bB hw hs hH
  refine loop_0 (fun m i (t : Nat) => wX_rank_9 (fun r u' => wpY_rank (fun r' => r' = r ∧ i_Rel (k + 4) u' (nI n, ff, fl, D)) (nI n, ff, fl, D)) (nI n) lsq lsp C β' ρ' m (nI t) (nI i))
    (fun i t => t = gz_S i (fun j => gz_nz (gy_dg a b c j))) 3 0 rfl ?_ ?_
  · intro m t ht
    refine br_t (by decide) (gy_rk hw hD ?_)
    intro r hr
    have e := gz_Rku hr (gz_RkE hs (gz_RkB (c := c) hH.1))
    refine ⟨?_, gz_mk hw hC hD⟩
    have e2 : gz_S 3 (fun j => gz_nz (gy_dg a b c j)) = 0 + gz_nz a + gz_nz b + gz_nz c := rfl
    have e3 : r = t := by omega
    rw [e3]
  · intro m i t hi ht K
    have db := gx_dgb hH hB i
    refine br_f (nI_ge (b := 3) hi (by decide)) (gx_sa hi ?_)
    rw [gx_dgs hb hi]
    refine gz_Le (gy_dg a b c i) 0 (fun e => ?_) (fun e => ?_)
    · refine nm_r (nI_1 i) (K t ?_)
      show t = gz_S i (fun j => gz_nz (gy_dg a b c j)) + gz_nz (gy_dg a b c i)
      have e1 : gz_nz (gy_dg a b c i) = 0 := if_pos e
      omega
    · refine nm_r (nI_1 t) (nm_r (nI_1 i) (K (t + 1) ?_))
      show t + 1 = gz_S i (fun j => gz_nz (gy_dg a b c j)) + gz_nz (gy_dg a b c i)
      have e1 : gz_nz (gy_dg a b c i) = 1 := if_neg e
      omega
theorem gz_hm {G : gz_V → Prop} {a p q b s c x y z : Int} (hs : ∀ v, gz_Sp (gz_B a p q b s c) v ↔ gz_Sp G v) : gz_Sp (gz_pr 3 G) (gz_pj 3 (x, y, z)) ↔ gz_Sp (gz_B a p q b s c) (x, y, z) := by
  rw [gz_pr3, gz_pj3]
  exact (hs _).symm
theorem i_vc_has {k : Nat} {u : SX} {v : SY} (I : i_Rel k u v) (hk : k + 4 ≤ 2048) (v1 : Int32) (v2 : Int32) (v3 : Int32) : wpX_has (fun r u' => wpY_has (fun r' v' => r' = r ∧ i_Rel (k + 4) u' v') v v1 v2 v3) u v1 v2 v3 := by
  obtain ⟨rc, lsq, lsp, C, β, ρ⟩ := u
  obtain ⟨fc, ff, fl, D⟩ := v
  obtain ⟨n, w, hw, h1, hC, h2, hD⟩ := I
  dsimp only at h1 hC h2 hD
  subst h1 h2
  obtain ⟨x, rfl, hx⟩ := gz_iXe v1
  obtain ⟨y, rfl, hy⟩ := gz_iXe v2
  obtain ⟨z, rfl, hz⟩ := gz_iXe v3
  unfold wpX_has
  dsimp only
  refine gx_aw (N := 5000) hx hy hz (by decide) (fun a1 a2 a3 => br_f (by decide) ?_) (fun hno => br_t rfl ?_)
  · refine gx_span hw hC ?_
    intro β' ρ' a p q b s c hb hs hH
    have hB := gz_bB hw hs hH
    refine gx_con hb hH hB a1 a2 a3 (fun hm ρ2 => ⟨rfl, ?_⟩) (fun hm ρ2 => ⟨rfl, ?_⟩)
    · unfold wpY_has
      dsimp only
      refine gy_aw (N := 5000) hx hy hz (by decide) (fun _ _ _ => br_f (by decide) ?_) (fun hno => absurd ⟨a1, a2, a3⟩ hno)
      exact gy_has (cols := 3) hw hD a1 a2 a3 (by decide) (by decide) (fun _ D' hD' => br_f (by decide) ⟨rfl, gz_mk hw hC hD'⟩) (fun hn => absurd ((gz_hm hs).2 hm) hn)
    · unfold wpY_has
      dsimp only
      refine gy_aw (N := 5000) hx hy hz (by decide) (fun _ _ _ => br_f (by decide) ?_) (fun hno => absurd ⟨a1, a2, a3⟩ hno)
      exact gy_has (cols := 3) hw hD a1 a2 a3 (by decide) (by decide) (fun hn => absurd ((gz_hm hs).1 hn) hm) (fun _ D' hD' => br_t rfl ⟨rfl, gz_mk hw hC hD'⟩)
  · unfold wpY_has
    dsimp only
    exact gy_aw (N := 5000) hx hy hz (by decide) (fun a1 a2 a3 => absurd ⟨a1, a2, a3⟩ hno) (fun _ => br_t rfl ⟨rfl, gz_mk hw hC hD⟩)
theorem i_vc_order {k : Nat} {u : SX} {v : SY} (I : i_Rel k u v) (hk : k + 4 ≤ 2048) (v1 : Int32) (v2 : Int32) (v3 : Int32) : wpX_order (fun r u' => wpY_order (fun r' v' => r' = r ∧ i_Rel (k + 4) u' v') v v1 v2 v3) u v1 v2 v3 := by
  obtain ⟨rc, lsq, lsp, C, β, ρ⟩ := u
  obtain ⟨fc, ff, fl, D⟩ := v
  obtain ⟨n, w, hw, h1, hC, h2, hD⟩ := I
  dsimp only at h1 hC h2 hD
  subst h1 h2
  have hn := hw.1
  obtain ⟨x, rfl, hx⟩ := gz_iXe v1
  obtain ⟨y, rfl, hy⟩ := gz_iXe v2
  obtain ⟨z, rfl, hz⟩ := gz_iXe v3
  unfold wpX_order
  dsimp only
  refine gx_aw (N := 100) hx hy hz (by decide) (fun a1 a2 a3 => br_f (by decide) ?_) (fun hno => br_t rfl ?_)
  · have a1' : x.natAbs ≤ 100 := a1
    have a2' : y.natAbs ≤ 100 := a2
    have a3' : z.natAbs ≤ 100 := a3
    refine gx_span hw hC ?_
    intro β' ρ' a p q b s c hb hs hH
    have hB := gz_bB hw hs hH
    have goY : ∀ (d : Int) (ρ2 : Nat → Int64), gz_Or (gz_R w (-1) n) (x, y, z) d → wpY_order (fun r' v' => r' = gy_sv d ∧ i_Rel (k + 4) (nI n, lsq, lsp, C, β', ρ2) v') (nI n, ff, fl, D) (gz_i x) (gz_i y) (gz_i z) := by
      intro d ρ2 hd
      unfold wpY_order
      dsimp only
      refine gy_aw (N := 100) hx hy hz (by decide) (fun _ _ _ => br_f (by decide) ?_) (fun hno => absurd ⟨a1, a2, a3⟩ hno)
      refine gy_put hw hD (by omega) (by omega) (by omega) ?_
      intro D' hD' h4
      have o := gy_ordv (post := fun r => r = gy_sv d ∧ i_Rel (k + 4) (nI n, lsq, lsp, C, β', ρ2) (nI n, ff, fl, D')) hd ⟨rfl, gz_mk hw hC hD'⟩
      refine gy_all ?_
      refine gy_ordW (post := fun r => r = gy_sv d ∧ i_Rel (k + 4) (nI n, lsq, lsp, C, β', ρ2) (nI n, ff, fl, D')) (m := gy_mk n) (lo := -1) (cols := 3) hw hD' h4 (by omega) (by omega) (by omega) (gy_bA hn) (gy_bB hn) (by decide) (by decide) ?_ ?_
      · rw [gz_pr3, gz_pj3]
        exact o.1
      · rw [gz_pr3, gz_pj3]
        exact o.2
    refine gx_lm hb hH hB hs a1' a2' a3' (fun o ρ2 => ?_) (fun m m1 m2 o ρ2 => ?_)
    · exact goY 0 ρ2 o
    · have g := goY m ρ2 o
      have e : gy_sv m = gz_i m := if_neg (by omega)
      rw [e] at g
      exact g
  · unfold wpY_order
    dsimp only
    exact gy_aw (N := 100) hx hy hz (by decide) (fun a1 a2 a3 => absurd ⟨a1, a2, a3⟩ hno) (fun _ => br_t rfl ⟨rfl, gz_mk hw hC hD⟩)
theorem i_vc_step {k : Nat} {u : SX} {v : SY} (I : i_Rel k u v) (hk : k + 4 ≤ 2048) (v1 : Int32) : wpX_step (fun r u' => wpY_step (fun r' v' => r' = r ∧ i_Rel (k + 4) u' v') v v1) u v1 := by
  obtain ⟨rc, lsq, lsp, C, β, ρ⟩ := u
  obtain ⟨fc, ff, fl, D⟩ := v
  obtain ⟨n, w, hw, h1, hC, h2, hD⟩ := I
  dsimp only at h1 hC h2 hD
  subst h1 h2
  unfold wpX_step
  dsimp only
  rcases gz_rn v1 (n := 3) (by omega) with ⟨j, hj, rfl⟩ | hj
  · refine gx_col1 hj (br_f (by decide) (gx_span hw hC ?_))
    intro β' ρ' a p q b s c hb hs hH
    have hB := gz_bB hw hs hH
    have db := gx_dgb hH hB j
    have goY : wpY_step (fun r' v' => r' = gy_sv (gy_dg a b c j) ∧ i_Rel (k + 4) (nI n, lsq, lsp, C, β', ρ') v') (nI n, ff, fl, D) (nI j) := by
      have h3 : j = 0 ∨ j = 1 ∨ j = 2 := by omega
      rcases h3 with rfl | rfl | rfl
      · exact gy_s0 hw hD hs hH (fun D' hD' => ⟨rfl, gz_mk hw hC hD'⟩)
      · exact gy_s1 hw hD hs hH (fun D' hD' => ⟨rfl, gz_mk hw hC hD'⟩)
      · exact gy_s2s hw hD hs hH (fun D' hD' => ⟨rfl, gz_mk hw hC hD'⟩)
    refine gx_sa hj ?_
    dsimp only
    rw [gx_dgs hb hj]
    refine gz_Le (gy_dg a b c j) 0 (fun e => ?_) (fun e => ?_)
    · have e1 : gy_sv (gy_dg a b c j) = -1000000 := if_pos e
      rw [e1] at goY
      exact goY
    · have e1 : gy_sv (gy_dg a b c j) = gz_i (gy_dg a b c j) := if_neg e
      rw [e1] at goY
      refine gx_sa hj ?_
      rw [gx_dgs hb hj, gz_li]
      exact goY
  · exact gx_col0 hj (br_t rfl (gy_col2 hj ⟨rfl, gz_mk hw hC hD⟩))
theorem i_vc_corner {k : Nat} {u : SX} {v : SY} (I : i_Rel k u v) (hk : k + 4 ≤ 2048) (v1 : Int32) (v2 : Int32) : wpX_corner (fun r u' => wpY_corner (fun r' v' => r' = r ∧ i_Rel (k + 4) u' v') v v1 v2) u v1 v2 := by
  obtain ⟨rc, lsq, lsp, C, β, ρ⟩ := u
  obtain ⟨fc, ff, fl, D⟩ := v
  obtain ⟨n, w, hw, h1, hC, h2, hD⟩ := I
  dsimp only at h1 hC h2 hD
  subst h1 h2
  unfold wpX_corner
  dsimp only
  rcases gz_rn v1 (n := 3) (by omega) with ⟨i, hi, rfl⟩ | hi
  · refine gx_col1 hi (br_f (by decide) ?_)
    rcases gz_rn v2 (n := 3) (by omega) with ⟨j, hj, rfl⟩ | hj
    · refine gx_col1 hj (br_f (by decide) (gx_span hw hC ?_))
      intro β' ρ' a p q b s c hb hs hH
      have hB := gz_bB hw hs hH
      have db := gx_dgb hH hB i
      have goY : wpY_corner (fun r' v' => r' = gy_cv (gy_dg a b c i) (gy_en a p q b s c i j) ∧ i_Rel (k + 4) (nI n, lsq, lsp, C, β', ρ') v') (nI n, ff, fl, D) (nI i) (nI j) := by
        have h3 : i = 0 ∨ i = 1 ∨ i = 2 := by omega
        rcases h3 with rfl | rfl | rfl
        · exact gy_co0 hw hD hs hH hB j hj (fun D' hD' => ⟨rfl, gz_mk hw hC hD'⟩)
        · exact gy_co1 hw hD hs hH hB j hj (fun D' hD' => ⟨rfl, gz_mk hw hC hD'⟩)
        · exact gy_co2 hw hD hs hH hB j hj (fun D' hD' => ⟨rfl, gz_mk hw hC hD'⟩)
      refine gx_sa hi ?_
      dsimp only
      rw [gx_dgs hb hi]
      refine gz_Le (gy_dg a b c i) 0 (fun e => ?_) (fun e => ?_)
      · rw [(gy_sv0 e).2] at goY
        exact goY
      · rw [(gy_sv1 e).2] at goY
        refine ⟨gx_vi3 (by omega) (by omega), ?_⟩
        rw [gx_ad3 (a := i) (b := j) (by omega), gx_ens hb hi hj, gz_li]
        exact goY
    · exact gx_col0 hj (br_t rfl (gy_col1 hi (gy_col2 hj ⟨rfl, gz_mk hw hC hD⟩)))
  · exact gx_col0 hi (br_t rfl (gy_col0 hi ⟨rfl, gz_mk hw hC hD⟩))
theorem gy_bC {n r0 : Nat} (hn : n ≤ 4) (h0 : r0 < n) (r : Nat) (hr : r < 5) : gz_bit (gy_mk n &&& (((1 : Int32) <<< (nI r0 &&& 31)) ^^^ (-1))) r ↔ r < n ∧ ¬ nI r = nI r0 :=
  (gy_b3 n (by omega) r0 (by omega) r hr).trans (by rw [nI_eq (a := r) (b := r0) (by omega) (by omega)])
theorem gy_bD {n r0 : Nat} (hn : n ≤ 4) (h0 : r0 < n) (r : Nat) (hr : r < 5) : gz_bit ((gy_mk n &&& (((1 : Int32) <<< (nI r0 &&& 31)) ^^^ (-1))) ||| 16) r ↔ (r < n ∧ ¬ nI r = nI r0) ∨ r = 4 :=
  (gy_b4 n (by omega) r0 (by omega) r hr).trans (by rw [nI_eq (a := r) (b := r0) (by omega) (by omega)])
theorem i_vc_spare {k : Nat} {u : SX} {v : SY} (I : i_Rel k u v) (hk : k + 4 ≤ 2048) (v1 : Int32) : wpX_spare (fun r u' => wpY_spare (fun r' v' => r' = r ∧ i_Rel (k + 4) u' v') v v1) u v1 := by
  obtain ⟨rc, lsq, lsp, C, β, ρ⟩ := u
  obtain ⟨fc, ff, fl, D⟩ := v
  obtain ⟨n, w, hw, h1, hC, h2, hD⟩ := I
  dsimp only at h1 hC h2 hD
  subst h1 h2
  have hn := hw.1
  unfold wpX_spare
  dsimp only
  rcases gz_rn v1 (n := n) (by omega) with ⟨r, hr, rfl⟩ | hr
  · refine gx_row1 hr (by omega) (br_f (by decide) (gx_span hw hC ?_))
    intro β' ρ' a p q b s c hb hs hH
    have hB := gz_bB hw hs hH
    have w0 := hw.2 (3 * r) (by omega)
    have w1 := hw.2 (3 * r + 1) (by omega)
    have w2 := hw.2 (3 * r + 2) (by omega)
    have e0 : (nI (3 * r)).toNatClampNeg = 3 * r := gx_cl (by omega)
    have e1 : (nI (3 * r) + 1).toNatClampNeg = 3 * r + 1 := gx_ad (b := 1) (by omega)
    have e2 : (nI (3 * r) + 2).toNatClampNeg = 3 * r + 2 := gx_ad (b := 2) (by omega)
    have goY : ∀ (t : Int32) (ρ2 : Nat → Int64), (gz_Sp (gz_B a p q b s c) (gz_ro w r) → t = 1) → (¬ gz_Sp (gz_B a p q b s c) (gz_ro w r) → t = 0) →
        wpY_spare (fun r' v' => r' = t ∧ i_Rel (k + 4) (nI n, lsq, lsp, C, β', ρ2) v') (nI n, ff, fl, D) (nI r) := by
      intro t ρ2 t1 t0
      obtain ⟨c0, v0⟩ := gy_c0 hw hD hr
      obtain ⟨c1, v1⟩ := gy_c3 (j := 1) hw hD hr (by decide)
      obtain ⟨c2, v2⟩ := gy_c3 (j := 2) hw hD hr (by decide)
      have c1' : D (3 * nI r + 1).toNatClampNeg = gz_i (w (3 * r + 1)) := c1
      have c2' : D (3 * nI r + 2).toNatClampNeg = gz_i (w (3 * r + 2)) := c2
      refine br_f (nI_pos (by omega)) (br_t (nI_lt hr (by omega)) ⟨v0, v1, v2, ?_⟩)
      rw [c0, c1', c2']
      refine gy_put hw hD (by omega) (by omega) (by omega) ?_
      intro D' hD' h4
      refine gy_all (nm_e ?_)
      refine gy_ordW (lo := nI r) (cols := 3) hw hD' h4 (by omega) (by omega) (by omega) (gy_bC hn hr) (gy_bD hn hr) (by decide) (by decide) (fun o => ?_) (fun e e1 e2 o => ?_)
      · rw [gz_pr3, gz_pj3] at o
        refine br_f (by decide) ⟨(t0 (fun hm => ?_)).symm, gz_mk hw hC hD'⟩
        exact absurd ((gz_Or1 o).1 ((hs _).1 hm)) (by decide)
      · rw [gz_pr3, gz_pj3] at o
        exact gz_be e 1 (fun ee => ⟨(t1 ((hs _).2 ((gz_Or1 o).2 ee))).symm, gz_mk hw hC hD'⟩) (fun ee => ⟨(t0 (fun hm => ee ((gz_Or1 o).1 ((hs _).1 hm)))).symm, gz_mk hw hC hD'⟩)
    refine nm_r (gx_3c r) ⟨vp_in_nI (by omega) (by omega), gx_vi (b := 1) (by omega) (by omega), gx_vi (b := 2) (by omega) (by omega), ?_⟩
    dsimp only
    rw [e0, e1, e2, hC (3 * r) (by omega), hC (3 * r + 1) (by omega), hC (3 * r + 2) (by omega)]
    refine gx_con hb hH hB (by omega) (by omega) (by omega) (fun hm ρ2 => ⟨rfl, ?_⟩) (fun hm ρ2 => ⟨rfl, ?_⟩)
    · exact goY 1 ρ2 (fun _ => rfl) (fun hn => absurd hm hn)
    · exact goY 0 ρ2 (fun hn => absurd hn hm) (fun _ => rfl)
  · refine gx_row0 hr (br_t rfl ?_)
    rcases hr with hr | ⟨hr1, hr2⟩
    · exact br_t hr ⟨rfl, gz_mk hw hC hD⟩
    · exact br_f hr1 (br_f (fun h => absurd hr2 (Int32.not_le.2 h)) ⟨rfl, gz_mk hw hC hD⟩)
end
section
/-! count -/
noncomputable def gz_f (a p q b s c : Int) (x y z : Nat) : Nat := gz_ind (gz_Sp (gz_B a p q b s c) ((x : Int), (y : Int), (z : Int)))
theorem gz_nb {k : Nat} (h : k ≤ 5000) : ((k : Int)).natAbs ≤ 5000 := by omega
section
variable {post : Int32 → SX → Prop} {lsq lsp : Int32} {C : Nat → Int32} {β : Nat → Int64} {n N : Nat} {a p q b s c : Int}
theorem gx_ct38 {J21 J29 : Int32 → Int32 → Int32 → Int32 → Int32 → (Nat → Int32) → (Nat → Int64) → (Nat → Int64) → Prop} (hb : gz_bs β a p q b s c) (hH : gz_H a p q b s c) (hB : gz_Bd a p q b s c) (hN : N ≤ 8) {x y : Nat} (hx : x < N) (hy : y < N)
    (t0 : Nat) (ρ : Nat → Int64) (h : ∀ ρ', J29 (nI (t0 + gz_S N (gz_f a p q b s c x y))) (nI (y + 1)) (nI n) lsq lsp C β ρ') :
    ∃ m, wX_count_38 post J21 J29 (nI N) (nI x) (nI y) m (nI t0) 0 (nI n) lsq lsp C β ρ := by
  refine loop_0 (fun m z (t : Nat × (Nat → Int64)) => wX_count_38 post J21 J29 (nI N) (nI x) (nI y) m (nI t.1) (nI z) (nI n) lsq lsp C β t.2) (fun z t => t.1 = t0 + gz_S z (gz_f a p q b s c x y)) N (t0, ρ) rfl ?_ ?_
  · intro m t ht
    refine br_t (nI_le (Nat.le_refl N) (by omega)) (nm_r (nI_1 y) ?_)
    rw [ht]
    exact h _
  · intro m z t hz ht K
    refine br_f (nI_ge hz (by omega)) ?_
    rw [← gz_iN x, ← gz_iN y, ← gz_iN z]
    refine gx_con hb hH hB (by omega) (by omega) (by omega) (fun hm ρ' => ?_) (fun hm ρ' => ?_)
    · have e : gz_f a p q b s c x y z = 1 := gz_ind1 hm
      refine br_f (by decide) (nm_r (nI_1 t.1) (nm_r (e' := nI (z + 1)) (by rw [gz_iN]; exact nI_1 z) ?_))
      rw [gz_iN x, gz_iN y]
      refine K (t.1 + 1, ρ') ?_
      show t.1 + 1 = t0 + (gz_S z (gz_f a p q b s c x y) + gz_f a p q b s c x y z)
      omega
    · have e : gz_f a p q b s c x y z = 0 := gz_ind0 hm
      refine br_t rfl (nm_r (e' := nI (z + 1)) (by rw [gz_iN]; exact nI_1 z) ?_)
      rw [gz_iN x, gz_iN y]
      refine K (t.1, ρ') ?_
      show t.1 = t0 + (gz_S z (gz_f a p q b s c x y) + gz_f a p q b s c x y z)
      omega
theorem gx_ct29 {J21 : Int32 → Int32 → Int32 → Int32 → Int32 → (Nat → Int32) → (Nat → Int64) → (Nat → Int64) → Prop} (hb : gz_bs β a p q b s c) (hH : gz_H a p q b s c) (hB : gz_Bd a p q b s c) (hN : N ≤ 8) {x : Nat} (hx : x < N)
    (t0 : Nat) (ρ : Nat → Int64) (h : ∀ ρ', J21 (nI (t0 + gz_S N (fun y => gz_S N (gz_f a p q b s c x y)))) (nI (x + 1)) (nI n) lsq lsp C β ρ') :
    ∃ m, wX_count_29 post J21 (nI N) (nI x) m (nI t0) 0 (nI n) lsq lsp C β ρ := by
  refine loop_0 (fun m y (t : Nat × (Nat → Int64)) => wX_count_29 post J21 (nI N) (nI x) m (nI t.1) (nI y) (nI n) lsq lsp C β t.2) (fun y t => t.1 = t0 + gz_S y (fun y => gz_S N (gz_f a p q b s c x y))) N (t0, ρ) rfl ?_ ?_
  · intro m t ht
    refine br_t (nI_le (Nat.le_refl N) (by omega)) (nm_r (nI_1 x) ?_)
    rw [ht]
    exact h _
  · intro m y t hy ht K
    refine br_f (nI_ge hy (by omega)) (gx_ct38 hb hH hB hN hx hy t.1 t.2 ?_)
    intro ρ'
    refine K (t.1 + gz_S N (gz_f a p q b s c x y), ρ') ?_
    show t.1 + gz_S N (gz_f a p q b s c x y) = t0 + (gz_S y (fun y => gz_S N (gz_f a p q b s c x y)) + gz_S N (gz_f a p q b s c x y))
    omega
theorem gx_ct21 (hb : gz_bs β a p q b s c) (hH : gz_H a p q b s c) (hB : gz_Bd a p q b s c) (hN : N ≤ 8) (ρ : Nat → Int64)
    (h : ∀ ρ', post (nI (gz_S N (fun x => gz_S N (fun y => gz_S N (gz_f a p q b s c x y))))) (nI n, lsq, lsp, C, β, ρ')) :
    ∃ m, wX_count_21 post (nI N) m 0 0 (nI n) lsq lsp C β ρ := by
  refine loop_0 (fun m x (t : Nat × (Nat → Int64)) => wX_count_21 post (nI N) m (nI t.1) (nI x) (nI n) lsq lsp C β t.2) (fun x t => t.1 = gz_S x (fun x => gz_S N (fun y => gz_S N (gz_f a p q b s c x y)))) N (0, ρ) rfl ?_ ?_
  · intro m t ht
    refine br_t (nI_le (Nat.le_refl N) (by omega)) ?_
    rw [ht]
    exact h _
  · intro m x t hx ht K
    refine br_f (nI_ge hx (by omega)) (gx_ct29 hb hH hB hN hx t.1 t.2 ?_)
    intro ρ'
    refine K (t.1 + gz_S N (fun y => gz_S N (gz_f a p q b s c x y)), ρ') ?_
    show t.1 + gz_S N (fun y => gz_S N (gz_f a p q b s c x y)) = gz_S x (fun x => gz_S N (fun y => gz_S N (gz_f a p q b s c x y))) + gz_S N (fun y => gz_S N (gz_f a p q b s c x y))
    omega
end
theorem gy_ct {post : Int32 → SY → Prop} {ff fl : Int32} {D : Nat → Int32} {n N : Nat} {w : Nat → Int} {a p q b s c : Int} (hw : gz_sw n w) (hD : gz_cw n w D)
    (hs : ∀ v, gz_Sp (gz_B a p q b s c) v ↔ gz_Sp (gz_R w (-1) n) v) (hN : N ≤ 8)
    (h : ∀ D', gz_cw n w D' → post (nI (gz_S N (fun x => gz_S N (fun y => gz_S N (gz_f a p q b s c x y))))) (nI n, ff, fl, D')) : ∃ m, wY_count_16 post (nI N) m 0 0 (nI n) ff fl D := by
  have hNN : N * N * N ≤ 512 := Nat.mul_le_mul (Nat.mul_le_mul hN hN) hN
  have e3 : nI N * nI N * nI N = nI (N * N * N) := by rw [pk_mul, pk_mul]
  refine loop_0 (fun m i (t : Nat × (Nat → Int32)) => wY_count_16 post (nI N) m (nI t.1) (nI i) (nI n) ff fl t.2)
    (fun i t => t.1 = gz_S i (fun i => gz_f a p q b s c (i % N) (i / N % N) (i / N / N)) ∧ gz_cw n w t.2) (N * N * N) (0, D) ⟨rfl, hD⟩ ?_ ?_
  · intro m t ⟨ht, hD'⟩
    refine br_t (by rw [e3]; exact nI_le (Nat.le_refl _) (by omega)) ?_
    rw [ht, gz_box N (gz_f a p q b s c)]
    exact h _ hD'
  · intro m i t hi ⟨ht, hD'⟩ K
    have h0 : 0 < N := by
      by_cases e : N = 0
      · subst e; omega
      · omega
    have hne : ¬ nI N = 0 := nI_ne0 h0 (by omega)
    have d1 : i / N ≤ i := Nat.div_le_self _ _
    have d2 : i / N / N ≤ i / N := Nat.div_le_self _ _
    have d3 : i % N ≤ i := Nat.mod_le _ _
    have d4 : i / N % N ≤ i / N := Nat.mod_le _ _
    have q1 : nI i / nI N = nI (i / N) := pk_div (by omega) h0 (by omega)
    have q2 : nI i - nI i / nI N * nI N = nI (i % N) := pk_rem (by omega) h0 (by omega)
    have q3 : nI (i / N) - nI (i / N) / nI N * nI N = nI (i / N % N) := pk_rem (by omega) h0 (by omega)
    have q4 : nI (i / N) / nI N = nI (i / N / N) := pk_div (by omega) h0 (by omega)
    refine br_f (by rw [e3]; exact nI_ge hi (by omega)) ⟨hne, hne, hne, hne, hne, ?_⟩
    rw [q2, q1, q3, q4, ← gz_iN (i % N), ← gz_iN (i / N % N), ← gz_iN (i / N / N)]
    refine gy_has (cols := 3) hw hD' (gz_nb (by omega)) (gz_nb (by omega)) (gz_nb (by omega)) (by decide) (by decide) (fun hm D2 hD2 => ?_) (fun hm D2 hD2 => ?_)
    · have e : gz_f a p q b s c (i % N) (i / N % N) (i / N / N) = 1 := gz_ind1 ((gz_hm hs).1 hm)
      refine br_f (by decide) (nm_r (nI_1 t.1) (nm_r (nI_1 i) (K (t.1 + 1, D2) ⟨?_, hD2⟩)))
      show t.1 + 1 = gz_S i (fun i => gz_f a p q b s c (i % N) (i / N % N) (i / N / N)) + gz_f a p q b s c (i % N) (i / N % N) (i / N / N)
      omega
    · have e : gz_f a p q b s c (i % N) (i / N % N) (i / N / N) = 0 := gz_ind0 (fun hx => hm ((gz_hm hs).2 hx))
      refine br_t rfl (nm_r (nI_1 i) (K (t.1, D2) ⟨?_, hD2⟩))
      show t.1 = gz_S i (fun i => gz_f a p q b s c (i % N) (i / N % N) (i / N / N)) + gz_f a p q b s c (i % N) (i / N % N) (i / N / N)
      omega
theorem i_vc_count {k : Nat} {u : SX} {v : SY} (I : i_Rel k u v) (hk : k + 4 ≤ 2048) (v1 : Int32) : wpX_count (fun r u' => wpY_count (fun r' v' => r' = r ∧ i_Rel (k + 4) u' v') v v1) u v1 := by
  obtain ⟨rc, lsq, lsp, C, β, ρ⟩ := u
  obtain ⟨fc, ff, fl, D⟩ := v
  obtain ⟨n, w, hw, h1, hC, h2, hD⟩ := I
  dsimp only at h1 hC h2 hD
  subst h1 h2
  rcases gz_rn v1 (n := 9) (by omega) with ⟨N, hN, rfl⟩ | h | ⟨h1, h2⟩
  · have p0 : ¬ nI N < 0 := nI_pos (by omega)
    have p8 : nI N ≤ 8 := nI_le (b := 8) (by omega) (by decide)
    refine br_f p0 (br_t p8 (gx_span hw hC ?_))
    intro β' ρ' a p q b s c hb hs hH
    have hB := gz_bB hw hs hH
    refine gx_ct21 hb hH hB (by omega) ρ' ?_
    intro ρ2
    exact br_f p0 (br_t p8 (gy_ct hw hD hs (by omega) (fun D' hD' => ⟨rfl, gz_mk hw hC hD'⟩)))
  · exact br_t h (br_t h ⟨rfl, gz_mk hw hC hD⟩)
  · have x := gz_gt (b := 8) h2 (by decide) (by decide)
    exact br_f h1 (br_f x.2.1 (br_f h1 (br_f x.2.1 ⟨rfl, gz_mk hw hC hD⟩)))
end
section
/-! X: the search for the shortest points -/
section
variable {post : SX → Prop} {C : Nat → Int32} {β ρ : Nat → Int64} {n : Nat} {a p q b s c : Int}
theorem gx_cmp {L : Int} {t : Nat} {Cc : Int → Nat} (hb : gz_bs β a p q b s c) (hH : gz_H a p q b s c) (hB : gz_Bd a p q b s c) {x y z : Int} (hx : x.natAbs ≤ 15) (hy : y.natAbs ≤ 15) (hz : z.natAbs ≤ 15)
    (hS : gz_Se 243 Cc L t) (h : ∀ L' t' ρ', gz_Se 243 (fun l => Cc l + gz_pt (gz_Sp (gz_B a p q b s c)) l x y z) L' t' → post (nI n, gz_i L', nI t', C, β, ρ')) :
    wpX_compareWithShortest post (nI n, gz_i L, nI t, C, β, ρ) (gz_i x) (gz_i y) (gz_i z) := by
  have e4 : gz_i x * gz_i x + gz_i y * gz_i y + gz_i z * gz_i z = gz_i (gz_sq x y z) := by
    rw [gz_im, gz_im, gz_im, gz_ia, gz_ia]
    rfl
  have m1 := gz_pm hx hx
  have m2 := gz_pm hy hy
  have m3 := gz_pm hz hz
  have qb : gz_sq x y z ≤ 675 := by
    unfold gz_sq
    omega
  have q0 : 0 ≤ gz_sq x y z := by
    have a1 := gz_sq0 x
    have a2 := gz_sq0 y
    have a3 := gz_sq0 z
    unfold gz_sq
    omega
  have l0 := hS.1
  have l1 := hS.2.1
  refine nm_r e4 (gz_be (gz_sq x y z) 0 (fun e => h L t ρ (gz_SeN hS (Or.inr (Or.inl (by omega))))) (fun e => ?_))
  refine gz_bt L (gz_sq x y z) (fun hlt => h L t ρ (gz_SeN hS (Or.inr (Or.inr hlt)))) (fun hle => ?_)
  refine gx_con hb hH hB (by omega) (by omega) (by omega) (fun hm ρ' => br_f (by decide) ?_) (fun hm ρ' => br_t rfl (h L t ρ' (gz_SeN hS (Or.inl hm))))
  refine gz_bl L (gz_sq x y z) (fun h2 => nm_r (nI_1 t) (h L (t + 1) ρ' (gz_SeE hS hm (by omega)))) (fun h2 => nm_r (show (0 : Int32) + 1 = nI 1 by decide) (h (gz_sq x y z) 1 ρ' (gz_SeL hS hm (by omega) h2)))
theorem gz_i1 (k : Nat) : gz_i ((k : Int) - 15) + 1 = gz_i (((k + 1 : Nat) : Int) - 15) := by
  have e : (1 : Int32) = gz_i 1 := rfl
  rw [e, gz_ia]
  exact gz_iq (by omega)
theorem gx_f33 {J15 J24 : Int32 → Int32 → Int32 → Int32 → (Nat → Int32) → (Nat → Int64) → (Nat → Int64) → Prop} {L : Int} {t : Nat} {Cc : Int → Nat} (hb : gz_bs β a p q b s c) (hH : gz_H a p q b s c) (hB : gz_Bd a p q b s c)
    {i j : Nat} (hi : i < 31) (hj : j < 31) (hS : gz_Se 243 Cc L t)
    (h : ∀ L' t' ρ', gz_Se 243 (fun l => Cc l + gz_S 31 (fun k => gz_pt (gz_Sp (gz_B a p q b s c)) l ((i : Int) - 15) ((j : Int) - 15) ((k : Int) - 15))) L' t' → J24 (gz_i (((j + 1 : Nat) : Int) - 15)) (nI n) (gz_i L') (nI t') C β ρ') :
    ∃ m, wX_findShortest_33 post J15 J24 (gz_i ((i : Int) - 15)) (gz_i ((j : Int) - 15)) m (-15) (nI n) (gz_i L) (nI t) C β ρ := by
  refine loop_0 (fun m k (r : Int × Nat × (Nat → Int64)) => wX_findShortest_33 post J15 J24 (gz_i ((i : Int) - 15)) (gz_i ((j : Int) - 15)) m (gz_i ((k : Int) - 15)) (nI n) (gz_i r.1) (nI r.2.1) C β r.2.2)
    (fun k r => gz_Se 243 (fun l => Cc l + gz_S k (fun k => gz_pt (gz_Sp (gz_B a p q b s c)) l ((i : Int) - 15) ((j : Int) - 15) ((k : Int) - 15))) r.1 r.2.1) 31 (L, t, ρ) (gz_SeC hS (fun l _ => rfl)) ?_ ?_
  · intro m r hr
    exact br_t (by decide) (nm_r (gz_i1 j) (h r.1 r.2.1 r.2.2 hr))
  · intro m k r hk hr K
    refine gz_bt 15 ((k : Int) - 15) (fun hlt => absurd hlt (by omega)) (fun _ => ?_)
    refine gx_cmp hb hH hB (by omega) (by omega) (by omega) hr ?_
    intro L' t' ρ' hS'
    exact nm_r (gz_i1 k) (K (L', t', ρ') (gz_SeC hS' (fun l _ => Nat.add_assoc _ _ _)))
theorem gx_f24 {J15 : Int32 → Int32 → Int32 → Int32 → (Nat → Int32) → (Nat → Int64) → (Nat → Int64) → Prop} {L : Int} {t : Nat} {Cc : Int → Nat} (hb : gz_bs β a p q b s c) (hH : gz_H a p q b s c) (hB : gz_Bd a p q b s c)
    {i : Nat} (hi : i < 31) (hS : gz_Se 243 Cc L t)
    (h : ∀ L' t' ρ', gz_Se 243 (fun l => Cc l + gz_S 31 (fun j => gz_S 31 (fun k => gz_pt (gz_Sp (gz_B a p q b s c)) l ((i : Int) - 15) ((j : Int) - 15) ((k : Int) - 15)))) L' t' → J15 (gz_i (((i + 1 : Nat) : Int) - 15)) (nI n) (gz_i L') (nI t') C β ρ') :
    ∃ m, wX_findShortest_24 post J15 (gz_i ((i : Int) - 15)) m (-15) (nI n) (gz_i L) (nI t) C β ρ := by
  refine loop_0 (fun m j (r : Int × Nat × (Nat → Int64)) => wX_findShortest_24 post J15 (gz_i ((i : Int) - 15)) m (gz_i ((j : Int) - 15)) (nI n) (gz_i r.1) (nI r.2.1) C β r.2.2)
    (fun j r => gz_Se 243 (fun l => Cc l + gz_S j (fun j => gz_S 31 (fun k => gz_pt (gz_Sp (gz_B a p q b s c)) l ((i : Int) - 15) ((j : Int) - 15) ((k : Int) - 15)))) r.1 r.2.1) 31 (L, t, ρ) (gz_SeC hS (fun l _ => rfl)) ?_ ?_
  · intro m r hr
    exact br_t (by decide) (nm_r (gz_i1 i) (h r.1 r.2.1 r.2.2 hr))
  · intro m j r hj hr K
    refine gz_bt 15 ((j : Int) - 15) (fun hlt => absurd hlt (by omega)) (fun _ => ?_)
    refine gx_f33 hb hH hB hi hj hr ?_
    intro L' t' ρ' hS'
    exact K (L', t', ρ') (gz_SeC hS' (fun l _ => Nat.add_assoc _ _ _))
theorem gz_Sle {m M : Nat} {f : Nat → Nat} (h : ∀ i, i < m → f i ≤ M) : gz_S m f ≤ m * M := by
  induction m with
  | zero => exact Nat.zero_le _
  | succ m ih =>
    have h1 := ih (fun i hi => h i (by omega))
    have h2 := h m (by omega)
    show gz_S m f + f m ≤ (m + 1) * M
    rw [Nat.add_mul, Nat.one_mul]
    omega
theorem gz_CXb {T : gz_V → Prop} {l : Int} : gz_CX T l ≤ 29791 := by
  have h1 : ∀ x y z, gz_pt T l x y z ≤ 1 := by
    intro x y z
    by_cases h : T (x, y, z) ∧ gz_sq x y z = l
    · exact Nat.le_of_eq (gz_ind1 h)
    · have e : gz_pt T l x y z = 0 := gz_ind0 h
      omega
  exact gz_Sle (M := 961) (fun i _ => gz_Sle (M := 31) (fun j _ => gz_Sle (M := 1) (fun k _ => h1 _ _ _)))
theorem gx_fs (lsq lsp : Int32) (hb : gz_bs β a p q b s c) (hH : gz_H a p q b s c) (hB : gz_Bd a p q b s c)
    (h0 : ∀ L ρ', gz_Se 243 (gz_CX (gz_Sp (gz_B a p q b s c))) L 0 → post (nI n, -1000000, -1000000, C, β, ρ'))
    (h1 : ∀ L t ρ', t ≠ 0 → gz_Se 243 (gz_CX (gz_Sp (gz_B a p q b s c))) L t → post (nI n, gz_i L, nI t, C, β, ρ')) :
    wpX_findShortest post (nI n, lsq, lsp, C, β, ρ) := by
  refine loop_0 (fun m i (r : Int × Nat × (Nat → Int64)) => wX_findShortest_15 post m (gz_i ((i : Int) - 15)) (nI n) (gz_i r.1) (nI r.2.1) C β r.2.2)
    (fun i r => gz_Se 243 (fun l => gz_S i (fun i => gz_S 31 (fun j => gz_S 31 (fun k => gz_pt (gz_Sp (gz_B a p q b s c)) l ((i : Int) - 15) ((j : Int) - 15) ((k : Int) - 15))))) r.1 r.2.1) 31 (243, 0, ρ) (gz_Se0 (by decide)) ?_ ?_
  · intro m r hr
    have hr2 : gz_Se 243 (gz_CX (gz_Sp (gz_B a p q b s c))) r.1 r.2.1 := hr
    have tb : r.2.1 ≤ 29791 := by
      rw [hr2.2.2.1]
      exact gz_CXb
    refine br_t (by decide) (pk_eq r.2.1 0 (fun e => ?_) (fun e => h1 _ _ _ e hr2))
    rw [e] at hr2
    exact h0 _ _ hr2
  · intro m i r hi hr K
    refine gz_bt 15 ((i : Int) - 15) (fun hlt => absurd hlt (by omega)) (fun _ => ?_)
    refine gx_f24 hb hH hB hi hr ?_
    intro L' t' ρ' hS'
    exact K (L', t', ρ') hS'
end
end
section
/-! Y: the search for the shortest points -/
theorem gy_on {post : Int32 → Prop} {fc ff fl : Int32} {D : Nat → Int32} {v st d : Int} (hv : v.natAbs ≤ 100000000) (hst : st.natAbs ≤ 100000000) (hd : 0 ≤ d) (hd2 : d ≤ 4374)
    (h1 : d ∣ v - st → post 1) (h0 : ¬ d ∣ v - st → post 0) : wpY_isOn post (fc, ff, fl, D) (gz_i v) (gz_i st) (gy_sv d) := by
  have key : ∀ g : Int, g.natAbs ≤ 200000000 → (d ∣ g ↔ d ∣ v - st) → wY_isOn_14 post (gy_sv d) (gz_i g) fc ff fl D := by
    intro g hg hiff
    by_cases e : d = 0
    · rw [(gy_sv0 (e := 0) e).1]
      refine br_t rfl (gz_be g 0 (fun eg => h1 (hiff.1 (by rw [eg]; exact Int.dvd_zero d))) (fun eg => h0 (fun hx => ?_)))
      have h2 := hiff.2 hx
      rw [e] at h2
      exact eg (Int.zero_dvd.1 h2)
    · rw [(gy_sv1 (e := 0) e).1]
      refine gz_be d (-1000000) (fun e2 => absurd e2 (by omega)) (fun _ => ?_)
      have tb : (g.tmod d).natAbs < 4294967 := by
        rw [Int.natAbs_tmod]
        have := Nat.mod_lt g.natAbs (show 0 < d.natAbs by omega)
        omega
      refine ⟨fun e2 => e ((gz_iE (b := 0)).1 e2), gz_be (g.tmod d) 0 (fun e2 => h1 (hiff.1 (Int.dvd_of_tmod_eq_zero e2))) (fun e2 => h0 (fun hx => e2 (Int.tmod_eq_zero_of_dvd (hiff.2 hx)))) gz_iR⟩
  refine gz_bl st v (fun hle => ?_) (fun hlt => ?_)
  · rw [gz_is]
    exact key _ (by omega) Iff.rfl
  · rw [gz_is]
    refine key _ (by omega) ⟨fun hx => ?_, fun hx => ?_⟩
    · exact gz_dng hx (by omega)
    · exact gz_dng hx (by omega)
theorem gz_i16 (k : Nat) : gz_i ((k : Int) - 16) + 1 = gz_i (((k + 1 : Nat) : Int) - 16) := by
  have e : (1 : Int32) = gz_i 1 := rfl
  rw [e, gz_ia]
  exact gz_iq (by omega)
section
variable {post : SY → Prop} {D : Nat → Int32} {n : Nat} {a p q b s c : Int}
/-- one line of the search: the third step from start on -/
theorem gy_nl {L : Int} {t : Nat} {Cc : Int → Nat} {T : gz_V → Prop} {K x y st : Int} (hK : K ≤ 243) (hx : x.natAbs ≤ 16) (hy : y.natAbs ≤ 16) (hst : st.natAbs ≤ 100000000) (hc : 0 ≤ c) (hc2 : c ≤ 4374)
    (hT : ∀ z, T (x, y, z) ↔ c ∣ z - st) (hS : gz_Se K Cc L t)
    (h : ∀ L' t', gz_Se K (fun l => Cc l + gz_S 33 (fun k => gz_pt T l x y ((k : Int) - 16))) L' t' → post (nI n, nI t', gz_i L', D)) :
    wpY_noteLine post (nI n, nI t, gz_i L, D) (gz_i x) (gz_i y) (gz_i st) (gy_sv c) := by
  refine loop_0 (fun m k (r : Int × Nat) => wY_noteLine_4 post (gz_i x) (gz_i y) (gz_i st) (gy_sv c) (nI n) D m (gz_i ((k : Int) - 16)) (nI r.2) (gz_i r.1))
    (fun k r => gz_Se K (fun l => Cc l + gz_S k (fun k => gz_pt T l x y ((k : Int) - 16))) r.1 r.2) 33 (L, t) (gz_SeC hS (fun l _ => rfl)) ?_ ?_
  · intro m r hr
    exact br_t (by decide) (h r.1 r.2 hr)
  · intro m k r hk hr K2
    have go : ∀ L' t', gz_Se K (fun l => (Cc l + gz_S k (fun k => gz_pt T l x y ((k : Int) - 16))) + gz_pt T l x y ((k : Int) - 16)) L' t' →
        wY_noteLine_4 post (gz_i x) (gz_i y) (gz_i st) (gy_sv c) (nI n) D m (gz_i (((k + 1 : Nat) : Int) - 16)) (nI t') (gz_i L') := by
      intro L' t' hS'
      exact K2 (L', t') (gz_SeC hS' (fun l _ => Nat.add_assoc _ _ _))
    have e4 : gz_i x * gz_i x + gz_i y * gz_i y + gz_i ((k : Int) - 16) * gz_i ((k : Int) - 16) = gz_i (gz_sq x y ((k : Int) - 16)) := by
      rw [gz_im, gz_im, gz_im, gz_ia, gz_ia]
      rfl
    have hz : ((k : Int) - 16).natAbs ≤ 16 := by omega
    have m1 := gz_pm hx hx
    have m2 := gz_pm hy hy
    have m3 := gz_pm hz hz
    have qb : gz_sq x y ((k : Int) - 16) ≤ 768 := by
      unfold gz_sq
      omega
    have q0 : 0 ≤ gz_sq x y ((k : Int) - 16) := by
      have a1 := gz_sq0 x
      have a2 := gz_sq0 y
      have a3 := gz_sq0 ((k : Int) - 16)
      unfold gz_sq
      omega
    have l0 := hr.1
    have l1 := hr.2.1
    refine gz_bt 16 ((k : Int) - 16) (fun hlt => absurd hlt (by omega)) (fun _ => nm_r e4 ?_)
    refine gz_bl (gz_sq x y ((k : Int) - 16)) 0 (fun hle => nm_r (gz_i16 k) (go _ _ (gz_SeN hr (Or.inr (Or.inl hle))))) (fun hpos => ?_)
    refine gz_bt r.1 (gz_sq x y ((k : Int) - 16)) (fun hlt => nm_r (gz_i16 k) (go _ _ (gz_SeN hr (Or.inr (Or.inr hlt))))) (fun hle => ?_)
    refine gy_on (by omega) hst hc hc2 (fun hd => br_f (by decide) ?_) (fun hd => br_t rfl (nm_r (gz_i16 k) (go _ _ (gz_SeN hr (Or.inl (fun hm => hd ((hT _).1 hm)))))))
    have hm : T (x, y, (k : Int) - 16) := (hT _).2 hd
    refine gz_bl r.1 (gz_sq x y ((k : Int) - 16)) (fun h2 => ?_) (fun h2 => nm_r (gz_i16 k) (go _ 1 (gz_SeL hr hm hpos h2)))
    have e5 : gz_sq x y ((k : Int) - 16) = r.1 := by omega
    refine nm_r (nI_1 r.2) (nm_r (gz_i16 k) ?_)
    rw [e5]
    exact go r.1 (r.2 + 1) (gz_SeE hr hm e5)
/-- a line with no point of the grid -/
theorem gz_SeZ {T : gz_V → Prop} {K L x y : Int} {t : Nat} {Cc : Int → Nat} (hS : gz_Se K Cc L t) (hT : ∀ z, ¬ T (x, y, z)) : gz_Se K (fun l => Cc l + gz_S 33 (fun k => gz_pt T l x y ((k : Int) - 16))) L t := by
  refine gz_SeC hS (fun l _ => ?_)
  have e : gz_S 33 (fun k => gz_pt T l x y ((k : Int) - 16)) = 0 := gz_S0 (fun k _ => gz_ind0 (fun h => hT _ h.1))
  show Cc l = Cc l + gz_S 33 (fun k => gz_pt T l x y ((k : Int) - 16))
  rw [e, Nat.add_zero]
theorem gy_184 {K : Int} (hH : gz_H a p q b s c) (hB : gz_Bd a p q b s c) (hK : K ≤ 243) (hK0 : 0 < K)
    (h : ∀ L t, gz_Se K (gz_CY (gz_Sp (gz_B a p q b s c))) L t → post (nI n, nI t, gz_i L, D)) :
    ∃ m, wY_findShortest_184 post (gy_sv a) (gy_sv b) (gy_sv c) (gz_i p) (gz_i q) (gz_i s) m 0 (nI n) 0 (gz_i K) D := by
  obtain ⟨k1, k2, k3, k4, k5, k6⟩ := hB
  obtain ⟨hZ, g1, g2, g3, _, _⟩ := hH
  refine loop_0 (fun m i (r : Int × Nat) => wY_findShortest_184 post (gy_sv a) (gy_sv b) (gy_sv c) (gz_i p) (gz_i q) (gz_i s) m (nI i) (nI n) (nI r.2) (gz_i r.1) D)
    (fun i r => gz_Se K (fun l => gz_S i (fun i => gz_S 33 (fun k => gz_pt (gz_Sp (gz_B a p q b s c)) l (((i / 33 : Nat) : Int) - 16) (((i % 33 : Nat) : Int) - 16) ((k : Int) - 16)))) r.1 r.2) 1089 (K, 0) (gz_Se0 hK0) ?_ ?_
  · intro m r hr
    exact br_t (by decide) (h r.1 r.2 hr)
  · intro m i r hi hr K2
    have d33 : ¬ (33 : Int32) = 0 := by decide
    have ex : nI i / 33 - 16 = gz_i (((i / 33 : Nat) : Int) - 16) := by
      have e1 : nI i / 33 = nI (i / 33) := pk_div (d := 33) (by omega) (by decide) (by decide)
      have e2 : (16 : Int32) = gz_i 16 := rfl
      rw [e1, e2, ← gz_iN, gz_is]
    have ey : nI i - nI i / 33 * 33 - 16 = gz_i (((i % 33 : Nat) : Int) - 16) := by
      have e1 : nI i - nI i / 33 * 33 = nI (i % 33) := pk_rem (d := 33) (by omega) (by decide) (by decide)
      have e2 : (16 : Int32) = gz_i 16 := rfl
      rw [e1, e2, ← gz_iN, gz_is]
    have xb : (((i / 33 : Nat) : Int) - 16).natAbs ≤ 16 := by omega
    have yb : (((i % 33 : Nat) : Int) - 16).natAbs ≤ 16 := by omega
    have go : ∀ L' t', gz_Se K (fun l => gz_S i (fun i => gz_S 33 (fun k => gz_pt (gz_Sp (gz_B a p q b s c)) l (((i / 33 : Nat) : Int) - 16) (((i % 33 : Nat) : Int) - 16) ((k : Int) - 16))) + gz_S 33 (fun k => gz_pt (gz_Sp (gz_B a p q b s c)) l (((i / 33 : Nat) : Int) - 16) (((i % 33 : Nat) : Int) - 16) ((k : Int) - 16))) L' t' →
        wY_findShortest_184 post (gy_sv a) (gy_sv b) (gy_sv c) (gz_i p) (gz_i q) (gz_i s) m (nI (i + 1)) (nI n) (nI t') (gz_i L') D := fun L' t' hS' => K2 (L', t') hS'
    refine br_f (nI_ge (b := 1089) hi (by decide)) ⟨d33, nm_r ex ⟨d33, nm_r ey ?_⟩⟩
    generalize ((i / 33 : Nat) : Int) - 16 = x at *
    generalize ((i % 33 : Nat) : Int) - 16 = y at *
    have hin : ∀ z, gz_Sp (gz_B a p q b s c) (x, y, z) ↔ a ∣ x ∧ b ∣ y - x.tdiv a * p ∧ c ∣ z - x.tdiv a * q - (y - x.tdiv a * p).tdiv b * s := fun z => gz_in hZ
    refine gy_on (st := 0) (by omega) (by decide) g1 (by omega) (fun hd => br_f (by decide) ?_) (fun hd => br_t rfl (nm_r (nI_1 i) (go _ _ (gz_SeZ hr (fun z hm => hd (by rw [Int.sub_zero]; exact ((hin z).1 hm).1))))))
    rw [Int.sub_zero] at hd
    have t0 : (x.tdiv a).natAbs ≤ x.natAbs := by rw [gz_e2]; exact Nat.div_le_self _ _
    have m1 := gz_pm (show (x.tdiv a).natAbs ≤ 16 by omega) k4
    have m2 := gz_pm (show (x.tdiv a).natAbs ≤ 16 by omega) k5
    have go2 : wY_findShortest_237 post (wY_findShortest_184 post (gy_sv a) (gy_sv b) (gy_sv c) (gz_i p) (gz_i q) (gz_i s) m) (gy_sv a) (gy_sv b) (gy_sv c) (gz_i p) (gz_i q) (gz_i s) (nI i) (gz_i x) (gz_i y) (gz_i (x.tdiv a)) (nI n) (nI r.2) (gz_i r.1) D := by
      unfold wY_findShortest_237
      rw [gz_im]
      refine gy_on (by omega) (by omega) g2 (by omega) (fun hd2 => br_f (by decide) ?_) (fun hd2 => br_t rfl (nm_r (nI_1 i) (go _ _ (gz_SeZ hr (fun z hm => hd2 ((hin z).1 hm).2.1)))))
      have yb1 : (y - x.tdiv a * p).natAbs ≤ 2608 := by
        generalize x.tdiv a * p = u at *
        omega
      have t1 : ((y - x.tdiv a * p).tdiv b).natAbs ≤ (y - x.tdiv a * p).natAbs := by rw [gz_e2]; exact Nat.div_le_self _ _
      have m3 := gz_pm (show ((y - x.tdiv a * p).tdiv b).natAbs ≤ 2608 by omega) k6
      have go3 : wY_findShortest_274 post (wY_findShortest_184 post (gy_sv a) (gy_sv b) (gy_sv c) (gz_i p) (gz_i q) (gz_i s) m) (gy_sv a) (gy_sv b) (gy_sv c) (gz_i p) (gz_i q) (gz_i s) (nI i) (gz_i x) (gz_i y) (gz_i (x.tdiv a)) (gz_i ((y - x.tdiv a * p).tdiv b)) (nI n) (nI r.2) (gz_i r.1) D := by
        unfold wY_findShortest_274
        rw [gz_im, gz_im, gz_ia]
        refine gy_nl (T := gz_Sp (gz_B a p q b s c)) hK xb yb ?_ g3 k3 (fun z => ?_) hr (fun L' t' hS' => nm_r (nI_1 i) (go L' t' hS'))
        · generalize x.tdiv a * q = u1 at *
          generalize (y - x.tdiv a * p).tdiv b * s = u2 at *
          omega
        · rw [hin z]
          have e : z - x.tdiv a * q - (y - x.tdiv a * p).tdiv b * s = z - (x.tdiv a * q + (y - x.tdiv a * p).tdiv b * s) := by omega
          rw [e]
          exact ⟨fun h => h.2.2, fun h => ⟨hd, hd2, h⟩⟩
      by_cases eb : b = 0
      · rw [(gy_sv0 (e := 0) eb).1] at go3 ⊢
        rw [eb, Int.tdiv_zero] at go3
        exact br_t rfl go3
      · rw [(gy_sv1 (e := 0) eb).1] at go3 ⊢
        refine gz_be b (-1000000) (fun e2 => absurd e2 (by omega)) (fun _ => ⟨fun e2 => eb ((gz_iE (b := 0)).1 e2), ?_⟩)
        rw [gz_is, gz_iD (a := y - x.tdiv a * p) (b := b)]
        exact go3
    by_cases ea : a = 0
    · rw [(gy_sv0 (e := 0) ea).1] at go2 ⊢
      rw [ea, Int.tdiv_zero] at go2
      exact br_t rfl go2
    · rw [(gy_sv1 (e := 0) ea).1] at go2 ⊢
      refine gz_be a (-1000000) (fun e2 => absurd e2 (by omega)) (fun _ => ⟨fun e2 => ea ((gz_iE (b := 0)).1 e2), ?_⟩)
      rw [gz_iD (a := x) (b := a)]
      exact go2
end
end
section
/-! Y: the least row, the steps and corners, the search; shortest and shortestPoints -/
theorem gy_no1 : (-1000000 : Int32) = gz_i (-1000000) := by rfl
section
variable {post : SY → Prop} {ff fl : Int32} {D : Nat → Int32} {n : Nat} {w : Nat → Int} {a p q b s c : Int}
theorem gy_143 {K : Int} (hw : gz_sw n w) (hD : gz_cw n w D) (hs : ∀ v, gz_Sp (gz_B a p q b s c) v ↔ gz_Sp (gz_R w (-1) n) v) (hH : gz_H a p q b s c) (hB : gz_Bd a p q b s c) (hK : K ≤ 243) (hK0 : 0 < K)
    (h : ∀ L t D', gz_cw n w D' → gz_Se K (gz_CY (gz_Sp (gz_B a p q b s c))) L t → post (nI n, nI t, gz_i L, D')) :
    wY_findShortest_143 post (gy_sv a) (gy_sv b) (gy_sv c) (gz_i p) (nI n) 0 (gz_i K) D := by
  obtain ⟨k1, k2, k3, k4, k5, k6⟩ := hB
  have hB : gz_Bd a p q b s c := ⟨k1, k2, k3, k4, k5, k6⟩
  have g1 := hH.2.1
  have g2 := hH.2.2.1
  have go : ∀ D', gz_cw n w D' → wY_findShortest_161 post (gy_sv a) (gy_sv b) (gy_sv c) (gz_i p) (gz_i q) (nI n) 0 (gz_i K) D' := by
    intro D1 hD1
    by_cases eb : b = 0
    · have es := hH.1.2 eb
      have g := gy_184 (post := post) (D := D1) (n := n) hH hB hK hK0 (fun L t hS => h L t D1 hD1 hS)
      rw [(gy_sv0 (e := 0) eb).1, es] at g
      rw [(gy_sv0 (e := 0) eb).1]
      exact br_t rfl g
    · have e1 := (gy_sv1 (e := 0) eb).1
      have hne : ¬ gy_sv b = -1000000 := by
        rw [e1]
        intro e2
        have := (gz_iE (a := b) (b := -1000000)).1 (e2.trans gy_no1)
        omega
      refine br_f hne (gy_co1 hw hD1 hs hH hB 2 (by decide) ?_)
      intro D2 hD2
      rw [(gy_sv1 eb).2]
      exact gy_184 hH hB hK hK0 (fun L t hS => h L t D2 hD2 hS)
  by_cases ea : a = 0
  · have eq := (hH.1.1 ea).2
    have g := go D hD
    rw [(gy_sv0 (e := 0) ea).1, eq] at g
    rw [(gy_sv0 (e := 0) ea).1]
    exact br_t rfl g
  · have e1 := (gy_sv1 (e := 0) ea).1
    have hne : ¬ gy_sv a = -1000000 := by
      rw [e1]
      intro e2
      have := (gz_iE (a := a) (b := -1000000)).1 (e2.trans gy_no1)
      omega
    refine br_f hne (gy_co0 hw hD hs hH hB 2 (by decide) ?_)
    intro D2 hD2
    rw [(gy_sv1 ea).2]
    exact go D2 hD2
theorem gy_20 {J8 : Int32 → Int32 → Prop} {x2' : Int32} (hw : gz_sw n w) (hD : gz_cw n w D) {r : Nat} (hr : r < n)
    (h0 : gz_sq (w (3 * r)) (w (3 * r + 1)) (w (3 * r + 2)) = 0 → J8 (nI (r + 1)) fl)
    (h1 : 0 < gz_sq (w (3 * r)) (w (3 * r + 1)) (w (3 * r + 2)) → gz_sq (w (3 * r)) (w (3 * r + 1)) (w (3 * r + 2)) ≤ 243 → J8 (nI (r + 1)) (gz_i (gz_sq (w (3 * r)) (w (3 * r + 1)) (w (3 * r + 2)))) ∧ (¬ fl = -1000000 → J8 (nI (r + 1)) fl)) :
    ∃ m, wY_findShortest_20 post J8 (nI r) (nI n) ff fl D m 0 0 := by
  have hn := hw.1
  obtain ⟨c0, v0⟩ := gy_c3 (j := 0) hw hD hr (by decide)
  obtain ⟨c1, v1⟩ := gy_c3 (j := 1) hw hD hr (by decide)
  obtain ⟨c2, v2⟩ := gy_c3 (j := 2) hw hD hr (by decide)
  have c0' : D (3 * nI r + 0).toNatClampNeg = gz_i (w (3 * r)) := c0
  have c1' : D (3 * nI r + 1).toNatClampNeg = gz_i (w (3 * r + 1)) := c1
  have c2' : D (3 * nI r + 2).toNatClampNeg = gz_i (w (3 * r + 2)) := c2
  have w0 := hw.2 (3 * r) (by omega)
  have w1 := hw.2 (3 * r + 1) (by omega)
  have w2 := hw.2 (3 * r + 2) (by omega)
  have m0 := gz_pm w0 w0
  have m1 := gz_pm w1 w1
  have m2 := gz_pm w2 w2
  have q0 := gz_sq0 (w (3 * r))
  have q1 := gz_sq0 (w (3 * r + 1))
  have q2 := gz_sq0 (w (3 * r + 2))
  have s0 : 0 + D (3 * nI r + 0).toNatClampNeg * D (3 * nI r + 0).toNatClampNeg = gz_i (w (3 * r) * w (3 * r)) := by
    rw [c0', gz_im, Int32.zero_add]
  have s1 : gz_i (w (3 * r) * w (3 * r)) + D (3 * nI r + 1).toNatClampNeg * D (3 * nI r + 1).toNatClampNeg = gz_i (w (3 * r) * w (3 * r) + w (3 * r + 1) * w (3 * r + 1)) := by
    rw [c1', gz_im, gz_ia]
  have s2 : gz_i (w (3 * r) * w (3 * r) + w (3 * r + 1) * w (3 * r + 1)) + D (3 * nI r + 2).toNatClampNeg * D (3 * nI r + 2).toNatClampNeg = gz_i (gz_sq (w (3 * r)) (w (3 * r + 1)) (w (3 * r + 2))) := by
    rw [c2', gz_im, gz_ia]
    rfl
  have qb : 0 ≤ gz_sq (w (3 * r)) (w (3 * r + 1)) (w (3 * r + 2)) ∧ gz_sq (w (3 * r)) (w (3 * r + 1)) (w (3 * r + 2)) ≤ 243 := by
    unfold gz_sq
    omega
  refine ⟨4, br_f (by decide) ⟨v0, v0, nm_r s0 (nm_r (show (0 : Int32) + 1 = 1 by decide) (br_f (by decide) ⟨v1, v1, nm_r s1 (nm_r (show (1 : Int32) + 1 = 2 by decide) (br_f (by decide) ⟨v2, v2, nm_r s2 (nm_r (show (2 : Int32) + 1 = 3 by decide) (br_t (by decide) ?_))⟩))⟩))⟩⟩
  generalize gz_sq (w (3 * r)) (w (3 * r + 1)) (w (3 * r + 2)) = g at *
  refine gz_bl g 0 (fun hle => nm_r (nI_1 r) (h0 (by omega))) (fun hpos => ?_)
  obtain ⟨k1, k2⟩ := h1 hpos qb.2
  refine br_c (fun _ => nm_r (nI_1 r) k1) (fun hne => br_c (fun _ => nm_r (nI_1 r) (k2 hne)) (fun _ => nm_r (nI_1 r) k1))
theorem gy_fs (hw : gz_sw n w) (hD : gz_cw n w D) (hs : ∀ v, gz_Sp (gz_B a p q b s c) v ↔ gz_Sp (gz_R w (-1) n) v) (hH : gz_H a p q b s c) (hB : gz_Bd a p q b s c)
    (h0 : (∀ r, r < n → gz_sq (w (3 * r)) (w (3 * r + 1)) (w (3 * r + 2)) = 0) → ∀ D', gz_cw n w D' → post (nI n, 0, -1000000, D'))
    (h1 : ∀ (r : Nat) (L : Int) (t : Nat) (D' : Nat → Int32), r < n → gz_cw n w D' → 0 < gz_sq (w (3 * r)) (w (3 * r + 1)) (w (3 * r + 2)) → gz_sq (w (3 * r)) (w (3 * r + 1)) (w (3 * r + 2)) ≤ 243 →
      gz_Se (gz_sq (w (3 * r)) (w (3 * r + 1)) (w (3 * r + 2))) (gz_CY (gz_Sp (gz_B a p q b s c))) L t → post (nI n, nI t, gz_i L, D')) :
    wpY_findShortest post (nI n, ff, fl, D) := by
  have hn := hw.1
  refine loop_0 (fun m r (g : Int32) => wY_findShortest_8 post (nI n) ff D m (nI r) g)
    (fun r g => (g = -1000000 ∧ ∀ r', r' < r → gz_sq (w (3 * r')) (w (3 * r' + 1)) (w (3 * r' + 2)) = 0) ∨
      ∃ r', r' < r ∧ g = gz_i (gz_sq (w (3 * r')) (w (3 * r' + 1)) (w (3 * r' + 2))) ∧ 0 < gz_sq (w (3 * r')) (w (3 * r' + 1)) (w (3 * r' + 2)) ∧ gz_sq (w (3 * r')) (w (3 * r' + 1)) (w (3 * r' + 2)) ≤ 243) n (-1000000)
    (Or.inl ⟨rfl, fun r hr => absurd hr (by omega)⟩) ?_ ?_
  · intro m g hg
    refine br_t (nI_le (Nat.le_refl n) (by omega)) ?_
    rcases hg with ⟨e, hz⟩ | ⟨r, hr, e, p1, p2⟩
    · subst e
      exact br_t rfl (h0 hz D hD)
    · subst e
      refine gz_be (gz_sq (w (3 * r)) (w (3 * r + 1)) (w (3 * r + 2))) (-1000000) (fun e2 => absurd e2 (by omega)) (fun _ => ?_)
      refine gy_s0 hw hD hs hH ?_
      intro D1 hD1
      refine gy_s1 hw hD1 hs hH ?_
      intro D2 hD2
      refine gy_s2s hw hD2 hs hH ?_
      intro D3 hD3
      have go : ∀ D', gz_cw n w D' → wY_findShortest_143 post (gy_sv a) (gy_sv b) (gy_sv c) (gz_i p) (nI n) 0 (gz_i (gz_sq (w (3 * r)) (w (3 * r + 1)) (w (3 * r + 2)))) D' := fun D' hD' =>
        gy_143 hw hD' hs hH hB p2 p1 (fun L t D4 hD4 hS => h1 r L t D4 hr hD4 p1 p2 hS)
      have g1 := hH.2.1
      have b1 := hB.1
      by_cases ea : a = 0
      · have g := go D3 hD3
        rw [(gy_sv0 (e := 0) ea).1, (hH.1.1 ea).1] at g
        rw [(gy_sv0 (e := 0) ea).1]
        exact br_t rfl g
      · have hne : ¬ gy_sv a = -1000000 := by
          rw [(gy_sv1 (e := 0) ea).1]
          intro e2
          have := (gz_iE (a := a) (b := -1000000)).1 (e2.trans gy_no1)
          omega
        refine br_f hne (gy_co0 hw hD3 hs hH hB 1 (by decide) ?_)
        intro D4 hD4
        rw [(gy_sv1 ea).2]
        exact go D4 hD4
  · intro m r g hr hg K
    refine br_f (nI_ge hr (by omega)) (gy_20 (x2' := 0) hw hD hr (fun e => K g ?_) (fun p1 p2 => ⟨K _ (Or.inr ⟨r, by omega, rfl, p1, p2⟩), fun hne => K g ?_⟩))
    · rcases hg with ⟨e1, hz⟩ | ⟨r1, hr1, e1, p1, p2⟩
      · refine Or.inl ⟨e1, fun r' hr' => ?_⟩
        by_cases e2 : r' = r
        · subst e2; exact e
        · exact hz r' (by omega)
      · exact Or.inr ⟨r1, by omega, e1, p1, p2⟩
    · rcases hg with ⟨e1, _⟩ | ⟨r1, hr1, e1, q1, q2⟩
      · exact absurd e1 hne
      · exact Or.inr ⟨r1, by omega, e1, q1, q2⟩
end
theorem gz_sqz {x y z : Int} (h : gz_sq x y z = 0) : x = 0 ∧ y = 0 ∧ z = 0 := by
  have h1 := gz_sq0 x
  have h2 := gz_sq0 y
  have h3 := gz_sq0 z
  unfold gz_sq at h
  refine ⟨?_, ?_, ?_⟩
  · have e : x * x = 0 := by omega
    rcases Int.mul_eq_zero.1 e with e | e <;> exact e
  · have e : y * y = 0 := by omega
    rcases Int.mul_eq_zero.1 e with e | e <;> exact e
  · have e : z * z = 0 := by omega
    rcases Int.mul_eq_zero.1 e with e | e <;> exact e
/-- rows that are all zero: no point is counted -/
theorem gz_CX0 {n : Nat} {w : Nat → Int} {T : gz_V → Prop} (hT : ∀ v, T v → gz_Sp (gz_R w (-1) n) v) (hz : ∀ r, r < n → gz_sq (w (3 * r)) (w (3 * r + 1)) (w (3 * r + 2)) = 0) {l : Int} (hl : 0 < l) : gz_CX T l = 0 := by
  have key : ∀ v, gz_Sp (gz_R w (-1) n) v → v = (0, 0, 0) := by
    intro v hv
    refine hv (fun v => v = (0, 0, 0)) rfl ?_
    intro u g t hu hg
    obtain ⟨r, hr, e⟩ := gy_Re hg
    subst e
    obtain ⟨z1, z2, z3⟩ := gz_sqz (hz r hr)
    rw [hu]
    apply gz_ext <;> simp [gz_ad, gz_ro, z1, z2, z3]
  refine gz_S0 (fun i _ => gz_S0 (fun j _ => gz_S0 (fun k _ => gz_ind0 (fun ⟨h1, h2⟩ => ?_))))
  have e := key _ (hT _ h1)
  have e1 : (i : Int) - 15 = 0 := congrArg (fun v : gz_V => v.1) e
  have e2 : (j : Int) - 15 = 0 := congrArg (fun v : gz_V => v.2.1) e
  have e3 : (k : Int) - 15 = 0 := congrArg (fun v : gz_V => v.2.2) e
  rw [e1, e2, e3] at h2
  have e4 : gz_sq 0 0 0 = 0 := by decide
  omega
theorem gz_sU {n r : Nat} {w : Nat → Int} {a p q b s c L R : Int} {t m : Nat} (hw : gz_sw n w) (hs : ∀ v, gz_Sp (gz_B a p q b s c) v ↔ gz_Sp (gz_R w (-1) n) v) (hr : r < n)
    (hX : gz_Se 243 (gz_CX (gz_Sp (gz_B a p q b s c))) L t) (p2 : gz_sq (w (3 * r)) (w (3 * r + 1)) (w (3 * r + 2)) ≤ 243)
    (hY : gz_Se (gz_sq (w (3 * r)) (w (3 * r + 1)) (w (3 * r + 2))) (gz_CY (gz_Sp (gz_B a p q b s c))) R m) : L = R ∧ t = m ∧ 1 ≤ t := by
  have w0 := hw.2 (3 * r) (by omega)
  have w1 := hw.2 (3 * r + 1) (by omega)
  have w2 := hw.2 (3 * r + 2) (by omega)
  refine gz_SeU hX hY p2 (fun l _ h => gz_tot h) ?_
  rw [← gz_tot p2]
  exact gz_ge1 (x := w (3 * r)) (y := w (3 * r + 1)) (z := w (3 * r + 2)) ((hs _).2 (gz_SpG (gy_Rm hw hr))) (by omega) (by omega) (by omega) rfl
theorem i_vc_shortest {k : Nat} {u : SX} {v : SY} (I : i_Rel k u v) (hk : k + 4 ≤ 2048) : wpX_shortest (fun r u' => wpY_shortest (fun r' v' => r' = r ∧ i_Rel (k + 4) u' v') v) u := by
  obtain ⟨rc, lsq, lsp, C, β, ρ⟩ := u
  obtain ⟨fc, ff, fl, D⟩ := v
  obtain ⟨n, w, hw, h1, hC, h2, hD⟩ := I
  dsimp only at h1 hC h2 hD
  subst h1 h2
  unfold wpX_shortest
  dsimp only
  refine gx_span hw hC ?_
  intro β' ρ' a p q b s c hb hs hH
  have hB := gz_bB hw hs hH
  refine gx_fs lsq lsp hb hH hB (fun L ρ2 hX => ?_) (fun L t ρ2 ht hX => ?_)
  · unfold wpY_shortest
    dsimp only
    refine gy_fs hw hD hs hH hB (fun hz D' hD' => ⟨rfl, gz_mk hw hC hD'⟩) (fun r R m D' hr hD' p1 p2 hY => ?_)
    have x := (gz_sU hw hs hr hX p2 hY).2.2
    exact absurd x (by decide)
  · unfold wpY_shortest
    dsimp only
    refine gy_fs hw hD hs hH hB (fun hz D' hD' => ?_) (fun r R m D' hr hD' p1 p2 hY => ?_)
    · refine absurd ?_ ht
      rw [hX.2.2.1]
      exact gz_CX0 (fun v hv => (hs v).1 hv) hz hX.1
    · obtain ⟨e1, e2, _⟩ := gz_sU hw hs hr hX p2 hY
      subst e1
      exact ⟨rfl, gz_mk hw hC hD'⟩
theorem i_vc_shortestPoints {k : Nat} {u : SX} {v : SY} (I : i_Rel k u v) (hk : k + 4 ≤ 2048) : wpX_shortestPoints (fun r u' => wpY_shortestPoints (fun r' v' => r' = r ∧ i_Rel (k + 4) u' v') v) u := by
  obtain ⟨rc, lsq, lsp, C, β, ρ⟩ := u
  obtain ⟨fc, ff, fl, D⟩ := v
  obtain ⟨n, w, hw, h1, hC, h2, hD⟩ := I
  dsimp only at h1 hC h2 hD
  subst h1 h2
  unfold wpX_shortestPoints
  dsimp only
  refine gx_span hw hC ?_
  intro β' ρ' a p q b s c hb hs hH
  have hB := gz_bB hw hs hH
  refine gx_fs lsq lsp hb hH hB (fun L ρ2 hX => ?_) (fun L t ρ2 ht hX => ?_)
  · unfold wpY_shortestPoints
    dsimp only
    refine gy_fs hw hD hs hH hB (fun hz D' hD' => br_t rfl ⟨rfl, gz_mk hw hC hD'⟩) (fun r R m D' hr hD' p1 p2 hY => ?_)
    have x := (gz_sU hw hs hr hX p2 hY).2.2
    exact absurd x (by decide)
  · unfold wpY_shortestPoints
    dsimp only
    refine gy_fs hw hD hs hH hB (fun hz D' hD' => ?_) (fun r R m D' hr hD' p1 p2 hY => ?_)
    · refine absurd ?_ ht
      rw [hX.2.2.1]
      exact gz_CX0 (fun v hv => (hs v).1 hv) hz hX.1
    · obtain ⟨e1, e2, _⟩ := gz_sU hw hs hr hX p2 hY
      subst e1 e2
      have l1 := hX.1
      have l2 := hX.2.1
      exact gz_be L (-1000000) (fun e => absurd e (by omega)) (fun _ => ⟨rfl, gz_mk hw hC hD'⟩)
end
