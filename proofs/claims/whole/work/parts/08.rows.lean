/-! sets of rows by number; common divisors gathered one by one -/
def gz_ro (w : Nat → Int) (r : Nat) : gz_V := (w (3 * r), w (3 * r + 1), w (3 * r + 2))
def gz_G (N : Nat) (B : Nat → Prop) (row : Nat → gz_V) : gz_V → Prop := fun u => ∃ r, r < N ∧ B r ∧ u = row r
theorem gz_dng {d x y : Int} (h : d ∣ x) (e : y = -x) : d ∣ y := by
  obtain ⟨k, hk⟩ := h
  exact ⟨-k, by rw [e, hk, Int.mul_neg]⟩
theorem gz_dz {d y : Int} (e : y = 0) : d ∣ y := by rw [e]; exact Int.dvd_zero d
theorem gz_M2o {N : Nat} {B : Nat → Prop} {row : Nat → gz_V} {d : Int} :
    gz_M 2 (gz_G N B row) (fun x => d ∣ x) ↔ ∀ r, r < N → B r → ∀ s, s < r → B s → d ∣ gz_xy (row r) (row s) ∧ d ∣ gz_xz (row r) (row s) ∧ d ∣ gz_yz (row r) (row s) := by
  constructor
  · intro h r hr br s hs bs
    exact h (row r) (row s) ⟨r, hr, br, rfl⟩ ⟨s, by omega, bs, rfl⟩
  · intro h u v ⟨r, hr, br, eu⟩ ⟨s, hs, bs, ev⟩
    subst eu ev
    by_cases h1 : s < r
    · exact h r hr br s h1 bs
    · by_cases h2 : r < s
      · obtain ⟨k1, k2, k3⟩ := h s hs bs r h2 br
        exact ⟨gz_dng k1 (by simp only [gz_xy]; grind), gz_dng k2 (by simp only [gz_xz]; grind), gz_dng k3 (by simp only [gz_yz]; grind)⟩
      · have e : r = s := by omega
        subst e
        exact ⟨gz_dz (gz_vv _).1, gz_dz (gz_vv _).2.1, gz_dz (gz_vv _).2.2⟩
theorem gz_dtA (u v w : gz_V) : gz_dt v u w = -gz_dt u v w ∧ gz_dt u w v = -gz_dt u v w ∧ gz_dt w v u = -gz_dt u v w ∧ gz_dt v w u = gz_dt u v w ∧ gz_dt w u v = gz_dt u v w := by
  refine ⟨?_, ?_, ?_, ?_, ?_⟩ <;> simp only [gz_dt, gz_xy, gz_xz, gz_yz] <;> grind
theorem gz_M3o {N : Nat} {B : Nat → Prop} {row : Nat → gz_V} {d : Int} :
    gz_M 3 (gz_G N B row) (fun x => d ∣ x) ↔ ∀ r, r < N → B r → ∀ s, s < r → B s → ∀ t, t < s → B t → d ∣ gz_dt (row r) (row s) (row t) := by
  constructor
  · intro h r hr br s hs bs t ht bt
    exact h (row r) (row s) (row t) ⟨r, hr, br, rfl⟩ ⟨s, by omega, bs, rfl⟩ ⟨t, by omega, bt, rfl⟩
  · intro h u v w ⟨i, hi, bi, eu⟩ ⟨j, hj, bj, ev⟩ ⟨k, hk, bk, ew⟩
    subst eu ev ew
    show d ∣ gz_dt (row i) (row j) (row k)
    by_cases e1 : i = j
    · subst e1; exact gz_dz (gz_vvw _ _).1
    · by_cases e2 : j = k
      · subst e2; exact gz_dz (gz_vvw _ _).2.2
      · by_cases e3 : i = k
        · subst e3; exact gz_dz (gz_vvw _ _).2.1
        · by_cases h1 : j < i
          · by_cases h2 : k < j
            · exact h i hi bi j h1 bj k h2 bk
            · by_cases h3 : k < i
              · exact gz_dng (h i hi bi k h3 bk j (by omega) bj) (gz_dtA _ _ _).2.1
              · have x := h k hk bk i (by omega) bi j h1 bj
                rw [← (gz_dtA (row k) (row i) (row j)).2.2.2.1] at x
                exact x
          · by_cases h2 : k < i
            · exact gz_dng (h j hj bj i (by omega) bi k h2 bk) (gz_dtA _ _ _).1
            · by_cases h3 : k < j
              · have x := h j hj bj k h3 bk i (by omega) bi
                rw [← (gz_dtA (row j) (row k) (row i)).2.2.2.2] at x
                exact x
              · exact gz_dng (h k hk bk j (by omega) bj i (by omega) bi) (gz_dtA _ _ _).2.2.1
theorem gz_M1o {N : Nat} {B : Nat → Prop} {row : Nat → gz_V} {d : Int} :
    gz_M 1 (gz_G N B row) (fun x => d ∣ x) ↔ ∀ r, r < N → B r → d ∣ (row r).1 ∧ d ∣ (row r).2.1 ∧ d ∣ (row r).2.2 := by
  constructor
  · intro h r hr br
    exact h (row r) ⟨r, hr, br, rfl⟩
  · intro h u ⟨r, hr, br, eu⟩
    subst eu
    exact h r hr br
theorem gz_gd {P Q : Int → Prop} {g m : Int} (hg : ∀ d, d ∣ g ↔ P d) (hm : ∀ d, d ∣ m ↔ Q d) (d : Int) : d ∣ (Int.gcd g m : Int) ↔ P d ∧ Q d := by
  rw [Int.dvd_coe_gcd_iff, hg, hm]
theorem gz_gle {g m : Int} {N : Nat} (hg : g.natAbs ≤ N) (hm : m.natAbs ≤ N) : Int.gcd g m ≤ N := by
  rw [Int.gcd_eq_natAbs_gcd_natAbs]
  by_cases h : g.natAbs = 0
  · rw [h, Nat.gcd_zero_left]; exact hm
  · exact Nat.le_trans (Nat.gcd_le_left _ (by omega)) hg
/-- with one row more, set apart at the end -/
theorem gz_Gpl {N : Nat} {B C : Nat → Prop} {row : Nat → gz_V} (h : ∀ r, r < N + 1 → (C r ↔ (r < N ∧ B r) ∨ r = N)) (u : gz_V) :
    gz_G (N + 1) C row u ↔ gz_pl (gz_G N B row) (row N) u := by
  constructor
  · intro ⟨r, hr, hc, e⟩
    rcases (h r hr).1 hc with ⟨h1, h2⟩ | h1
    · exact Or.inl ⟨r, h1, h2, e⟩
    · subst h1; exact Or.inr e
  · intro hu
    rcases hu with ⟨r, hr, hb, e⟩ | e
    · exact ⟨r, by omega, (h r (by omega)).2 (Or.inl ⟨hr, hb⟩), e⟩
    · exact ⟨N, by omega, (h N (by omega)).2 (Or.inr rfl), e⟩
theorem gz_Dg {k : Nat} {G H : gz_V → Prop} {n : Int} (h : ∀ u, G u ↔ H u) (hD : gz_D k G n) : gz_D k H n := by
  have e : G = H := funext (fun u => propext (h u))
  rw [← e]
  exact hD
theorem gz_Dk0 (G : gz_V → Prop) : gz_D 0 G 1 := ⟨by decide, fun _ => Iff.rfl⟩
/-- D(k) is not above the size of any minor other than 0 -/
theorem gz_Gs {N : Nat} {B : Nat → Prop} {row : Nat → gz_V} (h : ∀ r, r < N → B r → (row r).1.natAbs ≤ 9 ∧ (row r).2.1.natAbs ≤ 9 ∧ (row r).2.2.natAbs ≤ 9) : gz_Sm (gz_G N B row) := by
  intro u ⟨r, hr, hb, e⟩
  subst e
  exact h r hr hb
theorem gz_Gpj {n N : Nat} {B : Nat → Prop} {row : Nat → gz_V} (u : gz_V) : gz_G N B (fun r => gz_pj n (row r)) u ↔ gz_pr n (gz_G N B row) u := by
  constructor
  · intro ⟨r, hr, hb, e⟩
    exact ⟨row r, ⟨r, hr, hb, rfl⟩, e⟩
  · intro ⟨v, ⟨r, hr, hb, e⟩, e2⟩
    subst e
    exact ⟨r, hr, hb, e2⟩
theorem gz_Gb {N M : Nat} {B C : Nat → Prop} {row : Nat → gz_V} (h1 : ∀ r, r < N → B r → r < M ∧ C r) (h2 : ∀ r, r < M → C r → r < N ∧ B r) (u : gz_V) :
    gz_G N B row u ↔ gz_G M C row u :=
  ⟨fun ⟨r, hr, hb, e⟩ => ⟨r, (h1 r hr hb).1, (h1 r hr hb).2, e⟩, fun ⟨r, hr, hb, e⟩ => ⟨r, (h2 r hr hb).1, (h2 r hr hb).2, e⟩⟩
theorem gz_Ge {G H : gz_V → Prop} (h : ∀ u, G u ↔ H u) : G = H := funext (fun u => propext (h u))
