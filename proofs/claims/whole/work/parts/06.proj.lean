/-! projections to the first columns; steps and corners; the rank -/
def gz_pj (n : Nat) (u : gz_V) : gz_V := (u.1, if 2 ≤ n then u.2.1 else 0, if 3 ≤ n then u.2.2 else 0)
def gz_pr (n : Nat) (G : gz_V → Prop) : gz_V → Prop := fun w => ∃ u, G u ∧ w = gz_pj n u
theorem gz_pj0 (n : Nat) : gz_pj n (0, 0, 0) = (0, 0, 0) := by
  apply gz_ext <;> simp [gz_pj]
theorem gz_pjA (n : Nat) (u g : gz_V) (t : Int) : gz_pj n (gz_ad u t g) = gz_ad (gz_pj n u) t (gz_pj n g) := by
  by_cases h2 : 2 ≤ n <;> by_cases h3 : 3 ≤ n <;> apply gz_ext <;> simp [gz_pj, gz_ad, h2, h3]
theorem gz_pj3 (u : gz_V) : gz_pj 3 u = u := by
  apply gz_ext <;> simp [gz_pj]
theorem gz_SpJ {n : Nat} {G : gz_V → Prop} {w : gz_V} : gz_Sp (gz_pr n G) w ↔ ∃ u, gz_Sp G u ∧ w = gz_pj n u := by
  constructor
  · intro h
    refine h (fun w => ∃ u, gz_Sp G u ∧ w = gz_pj n u) ⟨(0, 0, 0), gz_Sp0, (gz_pj0 n).symm⟩ ?_
    intro v g t ⟨u, hu, eu⟩ ⟨k, hk, ek⟩
    exact ⟨gz_ad u t k, gz_SpA t hu hk, by rw [gz_pjA, eu, ek]⟩
  · intro ⟨u, hu, eu⟩
    rw [eu]
    refine hu (fun u => gz_Sp (gz_pr n G) (gz_pj n u)) ?_ ?_
    · show gz_Sp (gz_pr n G) (gz_pj n (0, 0, 0))
      rw [gz_pj0]
      exact gz_Sp0
    · intro v g t hv hg
      show gz_Sp (gz_pr n G) (gz_pj n (gz_ad v t g))
      rw [gz_pjA]
      exact gz_SpA t hv ⟨g, hg, rfl⟩
theorem gz_Sp3 {G : gz_V → Prop} {w : gz_V} : gz_Sp (gz_pr 3 G) w ↔ gz_Sp G w := by
  rw [gz_SpJ]
  exact ⟨fun ⟨u, hu, e⟩ => by rw [e, gz_pj3]; exact hu, fun h => ⟨w, h, (gz_pj3 w).symm⟩⟩
theorem gz_o0 {G : gz_V → Prop} {a p q b s c : Int} (hs : ∀ v, gz_Sp (gz_B a p q b s c) v ↔ gz_Sp G v) (ha : 0 ≤ a) : gz_Or (gz_pr 1 G) (1, 0, 0) a := by
  refine ⟨ha, fun m => ?_⟩
  rw [gz_SpJ]
  constructor
  · intro ⟨u, hu, e⟩
    obtain ⟨i, j, k, rfl⟩ := gz_Bs.1 ((hs u).2 hu)
    have e1 : m * 1 = i * a := congrArg (fun w : gz_V => w.1) e
    exact ⟨i, by rw [Int.mul_comm a i]; omega⟩
  · intro ⟨k, e⟩
    refine ⟨gz_sm k (a, p, q), gz_SpS k ((hs _).1 gz_sp0), ?_⟩
    subst e
    apply gz_ext <;> simp [gz_pj, gz_sm, Int.mul_comm]
theorem gz_o1 {G : gz_V → Prop} {a p q b s c : Int} (hs : ∀ v, gz_Sp (gz_B a p q b s c) v ↔ gz_Sp G v) (hz : gz_Z a p q b s) (hb : 0 ≤ b) : gz_Or (gz_pr 2 G) (0, 1, 0) b := by
  refine ⟨hb, fun m => ?_⟩
  rw [gz_SpJ]
  constructor
  · intro ⟨u, hu, e⟩
    obtain ⟨i, j, k, rfl⟩ := gz_Bs.1 ((hs u).2 hu)
    have e1 : m * 0 = i * a := congrArg (fun w : gz_V => w.1) e
    have e2 : m * 1 = i * p + j * b := congrArg (fun w : gz_V => w.2.1) e
    have e3 : i * p = 0 := by
      rw [Int.mul_zero] at e1
      rcases Int.mul_eq_zero.1 e1.symm with h | h
      · rw [h, Int.zero_mul]
      · rw [(hz.1 h).1, Int.mul_zero]
    exact ⟨j, by rw [Int.mul_comm b j]; omega⟩
  · intro ⟨k, e⟩
    refine ⟨gz_sm k (0, b, s), gz_SpS k ((hs _).1 gz_sp1), ?_⟩
    subst e
    apply gz_ext <;> simp [gz_pj, gz_sm, Int.mul_comm]
theorem gz_ij {a p q b s i j : Int} (hz : gz_Z a p q b s) (h1 : i * a = 0) (h2 : i * p + j * b = 0) : i * q + j * s = 0 := by
  have e3 : i * p = 0 ∧ i * q = 0 := by
    rcases Int.mul_eq_zero.1 h1 with h | h
    · rw [h, Int.zero_mul, Int.zero_mul]; exact ⟨rfl, rfl⟩
    · rw [(hz.1 h).1, (hz.1 h).2, Int.mul_zero]; exact ⟨rfl, rfl⟩
  have e4 : j * b = 0 := by omega
  have e5 : j * s = 0 := by
    rcases Int.mul_eq_zero.1 e4 with h | h
    · rw [h, Int.zero_mul]
    · rw [hz.2 h, Int.mul_zero]
  omega
theorem gz_o2 {G : gz_V → Prop} {a p q b s c : Int} (hs : ∀ v, gz_Sp (gz_B a p q b s c) v ↔ gz_Sp G v) (hz : gz_Z a p q b s) (hc : 0 ≤ c) : gz_Or (gz_pr 3 G) (0, 0, 1) c := by
  refine ⟨hc, fun m => ?_⟩
  rw [gz_SpJ]
  constructor
  · intro ⟨u, hu, e⟩
    obtain ⟨i, j, k, rfl⟩ := gz_Bs.1 ((hs u).2 hu)
    have e1 : m * 0 = i * a := congrArg (fun w : gz_V => w.1) e
    have e2 : m * 0 = i * p + j * b := congrArg (fun w : gz_V => w.2.1) e
    have e3 : m * 1 = i * q + j * s + k * c := congrArg (fun w : gz_V => w.2.2) e
    rw [Int.mul_zero] at e1 e2
    have e4 := gz_ij hz e1.symm e2.symm
    exact ⟨k, by rw [Int.mul_comm c k]; omega⟩
  · intro ⟨k, e⟩
    refine ⟨gz_sm k (0, 0, c), gz_SpS k ((hs _).1 gz_sp2), ?_⟩
    subst e
    apply gz_ext <;> simp [gz_pj, gz_sm, Int.mul_comm]
/-- which y may stand behind the first step -/
theorem gz_cy {G : gz_V → Prop} {a p q b s c y : Int} (hs : ∀ v, gz_Sp (gz_B a p q b s c) v ↔ gz_Sp G v) (ha : a ≠ 0) : gz_Sp (gz_pr 2 G) (a, y, 0) ↔ b ∣ y - p := by
  rw [gz_SpJ]
  constructor
  · intro ⟨u, hu, e⟩
    obtain ⟨i, j, k, rfl⟩ := gz_Bs.1 ((hs u).2 hu)
    have e1 : a = i * a := congrArg (fun w : gz_V => w.1) e
    have e2 : y = i * p + j * b := congrArg (fun w : gz_V => w.2.1) e
    have hi : i = 1 := Int.eq_of_mul_eq_mul_right ha (by omega)
    subst hi
    exact ⟨j, by rw [Int.mul_comm b j]; omega⟩
  · intro ⟨j, e⟩
    refine ⟨gz_ad (a, p, q) j (0, b, s), gz_SpAd j ((hs _).1 gz_sp0) ((hs _).1 gz_sp1), ?_⟩
    apply gz_ext
    · simp [gz_pj, gz_ad]
    · simp only [gz_pj, gz_ad]
      rw [Int.mul_comm j b]
      simp
      omega
    · simp [gz_pj, gz_ad]
theorem gz_cz {G : gz_V → Prop} {a p q b s c z : Int} (hs : ∀ v, gz_Sp (gz_B a p q b s c) v ↔ gz_Sp G v) (hz : gz_Z a p q b s) (ha : a ≠ 0) : gz_Sp G (a, p, z) ↔ c ∣ z - q := by
  constructor
  · intro hu
    obtain ⟨i, j, k, e⟩ := gz_Bs.1 ((hs _).2 hu)
    have e1 : a = i * a := congrArg (fun w : gz_V => w.1) e
    have e2 : p = i * p + j * b := congrArg (fun w : gz_V => w.2.1) e
    have e3 : z = i * q + j * s + k * c := congrArg (fun w : gz_V => w.2.2) e
    have hi : i = 1 := Int.eq_of_mul_eq_mul_right ha (by omega)
    subst hi
    have e4 : j * s = 0 := by
      have e5 : j * b = 0 := by omega
      rcases Int.mul_eq_zero.1 e5 with h | h
      · rw [h, Int.zero_mul]
      · rw [hz.2 h, Int.mul_zero]
    exact ⟨k, by rw [Int.mul_comm c k]; omega⟩
  · intro ⟨k, e⟩
    refine (hs _).1 (gz_SpV k gz_sp0 gz_sp2 ?_ ?_ ?_)
    · dsimp only; omega
    · dsimp only; omega
    · dsimp only
      rw [Int.mul_comm k c]
      omega
theorem gz_cs {G : gz_V → Prop} {a p q b s c z : Int} (hs : ∀ v, gz_Sp (gz_B a p q b s c) v ↔ gz_Sp G v) (hz : gz_Z a p q b s) (hb : b ≠ 0) : gz_Sp G (0, b, z) ↔ c ∣ z - s := by
  constructor
  · intro hu
    obtain ⟨i, j, k, e⟩ := gz_Bs.1 ((hs _).2 hu)
    have e1 : 0 = i * a := congrArg (fun w : gz_V => w.1) e
    have e2 : b = i * p + j * b := congrArg (fun w : gz_V => w.2.1) e
    have e3 : z = i * q + j * s + k * c := congrArg (fun w : gz_V => w.2.2) e
    have e4 : i * p = 0 ∧ i * q = 0 := by
      rcases Int.mul_eq_zero.1 e1.symm with h | h
      · rw [h, Int.zero_mul, Int.zero_mul]; exact ⟨rfl, rfl⟩
      · rw [(hz.1 h).1, (hz.1 h).2, Int.mul_zero]; exact ⟨rfl, rfl⟩
    have hj : j = 1 := Int.eq_of_mul_eq_mul_right hb (by omega)
    subst hj
    exact ⟨k, by rw [Int.mul_comm c k]; omega⟩
  · intro ⟨k, e⟩
    refine (hs _).1 (gz_SpV k gz_sp1 gz_sp2 ?_ ?_ ?_)
    · dsimp only; omega
    · dsimp only; omega
    · dsimp only
      rw [Int.mul_comm k c]
      omega
/-- the rank: the last size with a minor other than 0 -/
def gz_Rk (G : gz_V → Prop) (r : Nat) : Prop :=
  r ≤ 3 ∧ ¬ gz_M r G (fun x => (0 : Int) ∣ x) ∧ ∀ k, r < k → k ≤ 3 → gz_M k G (fun x => (0 : Int) ∣ x)
theorem gz_Rku {G : gz_V → Prop} {r t : Nat} (hr : gz_Rk G r) (ht : gz_Rk G t) : r = t := by
  by_cases h1 : r < t
  · exact absurd (hr.2.2 t h1 ht.1) ht.2.1
  · by_cases h2 : t < r
    · exact absurd (ht.2.2 r h2 hr.1) hr.2.1
    · omega
theorem gz_Mz {k : Nat} {G : gz_V → Prop} (h : gz_M k G (fun x => (0 : Int) ∣ x)) : gz_M (k + 1) G (fun x => (0 : Int) ∣ x) := by
  match k, h with
  | 0, h => exact absurd (Int.zero_dvd.1 h) (by decide)
  | 1, h =>
    intro u v hu hv
    have u1 := Int.zero_dvd.1 (h u hu).1
    have u2 := Int.zero_dvd.1 (h u hu).2.1
    have u3 := Int.zero_dvd.1 (h u hu).2.2
    refine ⟨Int.zero_dvd.2 ?_, Int.zero_dvd.2 ?_, Int.zero_dvd.2 ?_⟩
    · simp only [gz_xy, u1, u2]; omega
    · simp only [gz_xz, u1, u3]; omega
    · simp only [gz_yz, u2, u3]; omega
  | 2, h =>
    intro u v w _ hv hw
    have u1 := Int.zero_dvd.1 (h v w hv hw).1
    have u2 := Int.zero_dvd.1 (h v w hv hw).2.1
    have u3 := Int.zero_dvd.1 (h v w hv hw).2.2
    refine Int.zero_dvd.2 ?_
    simp only [gz_dt, u1, u2, u3]; omega
  | _ + 3, _ => exact trivial
theorem gz_ME {k : Nat} {G H : gz_V → Prop} {d : Int} (h : ∀ v, gz_Sp G v ↔ gz_Sp H v) (hM : gz_M k G (fun x => d ∣ x)) : gz_M k H (fun x => d ∣ x) :=
  gz_Mg (fun _ hu => (h _).2 (gz_SpG hu)) (gz_Ms (gz_Idd d) hM)
theorem gz_RkE {r : Nat} {G H : gz_V → Prop} (h : ∀ v, gz_Sp G v ↔ gz_Sp H v) (hr : gz_Rk G r) : gz_Rk H r :=
  ⟨hr.1, fun hM => hr.2.1 (gz_ME (fun v => (h v).symm) hM), fun k h1 h2 => gz_ME h (hr.2.2 k h1 h2)⟩
theorem gz_ordT {G : gz_V → Prop} {v : gz_V} {r t : Nat} {g h : Int} (hr : gz_Rk G r) (ht : gz_Rk (gz_pl G v) t) (hle : t ≤ r)
    (hg : gz_D r G g) (hh : gz_D r (gz_pl G v) h) : 0 < h ∧ 0 < g.tdiv h ∧ gz_Or G v (g.tdiv h) := by
  refine gz_OrT hg hh ?_ (fun e => hr.2.1 ((gz_D0 hg).1 e))
  by_cases h3 : r + 1 ≤ 3
  · exact ht.2.2 (r + 1) (by omega) h3
  · have h4 := hr.1
    have e : r = 3 := by omega
    subst e
    exact trivial
theorem gz_ordN {G : gz_V → Prop} {v : gz_V} {r t : Nat} (hr : gz_Rk G r) (ht : gz_Rk (gz_pl G v) t) (hlt : r < t) : gz_Or G v 0 :=
  gz_OrN (hr.2.2 t hlt ht.1) ht.2.1
/-- the rank by the basis -/
def gz_nz (a : Int) : Nat := if a = 0 then 0 else 1
theorem gz_RkB {a p q b s c : Int} (hz : gz_Z a p q b s) : gz_Rk (gz_B a p q b s c) (gz_nz a + gz_nz b + gz_nz c) := by
  have g0 : gz_B a p q b s c (a, p, q) := Or.inl rfl
  have g1 : gz_B a p q b s c (0, b, s) := Or.inr (Or.inl rfl)
  have g2 : gz_B a p q b s c (0, 0, c) := Or.inr (Or.inr rfl)
  have hrow : ∀ u, gz_B a p q b s c u → ∃ i j k : Int, u = (i * a, i * p + j * b, i * q + j * s + k * c) := fun u hu => gz_Bs.1 (gz_SpG hu)
  have h3 : a * (b * c) = 0 → gz_M 3 (gz_B a p q b s c) (fun x => (0 : Int) ∣ x) := by
    intro h u v w hu hv hw
    obtain ⟨i, j, k, rfl⟩ := hrow u hu
    obtain ⟨i', j', k', rfl⟩ := hrow v hv
    obtain ⟨i2, j2, k2, rfl⟩ := hrow w hw
    refine Int.zero_dvd.2 ?_
    have e : gz_dt (i * a, i * p + j * b, i * q + j * s + k * c) (i' * a, i' * p + j' * b, i' * q + j' * s + k' * c) (i2 * a, i2 * p + j2 * b, i2 * q + j2 * s + k2 * c) = a * (b * c) * (i * (j' * k2 - k' * j2) - j * (i' * k2 - k' * i2) + k * (i' * j2 - j' * i2)) := by
      simp only [gz_dt, gz_xy, gz_xz, gz_yz]; grind
    rw [e, h, Int.zero_mul]
  have n1 : gz_M 1 (gz_B a p q b s c) (fun x => (0 : Int) ∣ x) → a = 0 ∧ b = 0 ∧ c = 0 := fun h =>
    ⟨Int.zero_dvd.1 (h _ g0).1, Int.zero_dvd.1 (h _ g1).2.1, Int.zero_dvd.1 (h _ g2).2.2⟩
  have n2 : gz_M 2 (gz_B a p q b s c) (fun x => (0 : Int) ∣ x) → a * b = 0 ∧ a * c = 0 ∧ b * c = 0 := by
    intro h
    have h1 := Int.zero_dvd.1 (h _ _ g0 g1).1
    have h2 := Int.zero_dvd.1 (h _ _ g0 g2).2.1
    have h3 := Int.zero_dvd.1 (h _ _ g1 g2).2.2
    simp only [gz_xy, gz_xz, gz_yz] at h1 h2 h3
    refine ⟨?_, ?_, ?_⟩ <;> grind
  have n3 : gz_M 3 (gz_B a p q b s c) (fun x => (0 : Int) ∣ x) → a * (b * c) = 0 := by
    intro h
    have h1 := Int.zero_dvd.1 (h _ _ _ g0 g1 g2)
    simp only [gz_dt, gz_xy, gz_xz, gz_yz] at h1
    grind
  have n0 : ¬ gz_M 0 (gz_B a p q b s c) (fun x => (0 : Int) ∣ x) := fun h => absurd (Int.zero_dvd.1 h) (by decide)
  have ne : ∀ {x y : Int}, x ≠ 0 → y ≠ 0 → x * y ≠ 0 := fun hx hy => Int.mul_ne_zero hx hy
  have up1 : gz_M 1 (gz_B a p q b s c) (fun x => (0 : Int) ∣ x) → ∀ k, 0 < k → k ≤ 3 → gz_M k (gz_B a p q b s c) (fun x => (0 : Int) ∣ x) := by
    intro h k h1 h2
    match k, h1, h2 with
    | 1, _, _ => exact h
    | 2, _, _ => exact gz_Mz h
    | 3, _, _ => exact gz_Mz (gz_Mz h)
  have up2 : gz_M 2 (gz_B a p q b s c) (fun x => (0 : Int) ∣ x) → ∀ k, 1 < k → k ≤ 3 → gz_M k (gz_B a p q b s c) (fun x => (0 : Int) ∣ x) := by
    intro h k h1 h2
    match k, h1, h2 with
    | 2, _, _ => exact h
    | 3, _, _ => exact gz_Mz h
  have up3 : gz_M 3 (gz_B a p q b s c) (fun x => (0 : Int) ∣ x) → ∀ k, 2 < k → k ≤ 3 → gz_M k (gz_B a p q b s c) (fun x => (0 : Int) ∣ x) := by
    intro h k h1 h2
    have e : k = 3 := by omega
    subst e
    exact h
  by_cases ha : a = 0
  · obtain ⟨hp, hq⟩ := hz.1 ha
    by_cases hb : b = 0
    · have hs := hz.2 hb
      by_cases hc : c = 0
      · have e : gz_nz a + gz_nz b + gz_nz c = 0 := by simp [gz_nz, ha, hb, hc]
        rw [e]
        refine ⟨by decide, n0, up1 ?_⟩
        intro u hu
        obtain ⟨i, j, k, rfl⟩ := hrow u hu
        subst ha hb hc hp hq hs
        simp
      · have e : gz_nz a + gz_nz b + gz_nz c = 1 := by simp [gz_nz, ha, hb, hc]
        rw [e]
        refine ⟨by decide, fun h => hc (n1 h).2.2, up2 ?_⟩
        intro u v hu hv
        obtain ⟨i, j, k, rfl⟩ := hrow u hu
        obtain ⟨i', j', k', rfl⟩ := hrow v hv
        subst ha hb hp hq hs
        refine ⟨Int.zero_dvd.2 ?_, Int.zero_dvd.2 ?_, Int.zero_dvd.2 ?_⟩ <;> simp only [gz_xy, gz_xz, gz_yz] <;> grind
    · by_cases hc : c = 0
      · have e : gz_nz a + gz_nz b + gz_nz c = 1 := by simp [gz_nz, ha, hb, hc]
        rw [e]
        refine ⟨by decide, fun h => hb (n1 h).2.1, up2 ?_⟩
        intro u v hu hv
        obtain ⟨i, j, k, rfl⟩ := hrow u hu
        obtain ⟨i', j', k', rfl⟩ := hrow v hv
        subst ha hc hp hq
        refine ⟨Int.zero_dvd.2 ?_, Int.zero_dvd.2 ?_, Int.zero_dvd.2 ?_⟩ <;> simp only [gz_xy, gz_xz, gz_yz] <;> grind
      · have e : gz_nz a + gz_nz b + gz_nz c = 2 := by simp [gz_nz, ha, hb, hc]
        rw [e]
        exact ⟨by decide, fun h => ne hb hc (n2 h).2.2, up3 (h3 (by rw [ha, Int.zero_mul]))⟩
  · by_cases hb : b = 0
    · have hs := hz.2 hb
      by_cases hc : c = 0
      · have e : gz_nz a + gz_nz b + gz_nz c = 1 := by simp [gz_nz, ha, hb, hc]
        rw [e]
        refine ⟨by decide, fun h => ha (n1 h).1, up2 ?_⟩
        intro u v hu hv
        obtain ⟨i, j, k, rfl⟩ := hrow u hu
        obtain ⟨i', j', k', rfl⟩ := hrow v hv
        subst hb hc hs
        refine ⟨Int.zero_dvd.2 ?_, Int.zero_dvd.2 ?_, Int.zero_dvd.2 ?_⟩ <;> simp only [gz_xy, gz_xz, gz_yz] <;> grind
      · have e : gz_nz a + gz_nz b + gz_nz c = 2 := by simp [gz_nz, ha, hb, hc]
        rw [e]
        exact ⟨by decide, fun h => ne ha hc (n2 h).2.1, up3 (h3 (by rw [hb, Int.zero_mul, Int.mul_zero]))⟩
    · by_cases hc : c = 0
      · have e : gz_nz a + gz_nz b + gz_nz c = 2 := by simp [gz_nz, ha, hb, hc]
        rw [e]
        exact ⟨by decide, fun h => ne ha hb (n2 h).1, up3 (h3 (by rw [hc, Int.mul_zero, Int.mul_zero]))⟩
      · have e : gz_nz a + gz_nz b + gz_nz c = 3 := by simp [gz_nz, ha, hb, hc]
        rw [e]
        exact ⟨by decide, fun h => ne ha (ne hb hc) (n3 h), fun k h1 h2 => absurd h1 (by omega)⟩
