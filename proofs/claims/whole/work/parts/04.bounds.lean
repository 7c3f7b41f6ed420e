/-! the basis in its ranges, and how large its numbers are -/
def gz_H (a p q b s c : Int) : Prop :=
  gz_Z a p q b s ∧ 0 ≤ a ∧ 0 ≤ b ∧ 0 ≤ c ∧ (b ≠ 0 → 0 ≤ p ∧ p < b) ∧ (c ≠ 0 → 0 ≤ q ∧ q < c ∧ 0 ≤ s ∧ s < c)
def gz_Sm (G : gz_V → Prop) : Prop := ∀ u, G u → u.1.natAbs ≤ 9 ∧ u.2.1.natAbs ≤ 9 ∧ u.2.2.natAbs ≤ 9
theorem gz_pm {a b : Int} {A B : Nat} (ha : a.natAbs ≤ A) (hb : b.natAbs ≤ B) : (a * b).natAbs ≤ A * B := by
  rw [Int.natAbs_mul]
  exact Nat.mul_le_mul ha hb
theorem gz_m2 {A B : Nat} {a b c d : Int} (ha : a.natAbs ≤ A) (hb : b.natAbs ≤ B) (hc : c.natAbs ≤ A) (hd : d.natAbs ≤ B) : (a * b - c * d).natAbs ≤ 2 * (A * B) := by
  have h1 := gz_pm ha hb
  have h2 := gz_pm hc hd
  generalize a * b = x at *
  generalize c * d = y at *
  omega
theorem gz_sm2 {G : gz_V → Prop} (hG : gz_Sm G) {u v : gz_V} (hu : G u) (hv : G v) :
    (gz_xy u v).natAbs ≤ 162 ∧ (gz_xz u v).natAbs ≤ 162 ∧ (gz_yz u v).natAbs ≤ 162 := by
  obtain ⟨u1, u2, u3⟩ := hG u hu
  obtain ⟨v1, v2, v3⟩ := hG v hv
  exact ⟨gz_m2 u1 v2 u2 v1, gz_m2 u1 v3 u3 v1, gz_m2 u2 v3 u3 v2⟩
theorem gz_d3 {a b c x y z : Int} {A B : Nat} (ha : a.natAbs ≤ A) (hb : b.natAbs ≤ A) (hc : c.natAbs ≤ A) (hx : x.natAbs ≤ B) (hy : y.natAbs ≤ B) (hz : z.natAbs ≤ B) :
    (a * x - b * y + c * z).natAbs ≤ 3 * (A * B) := by
  have h1 := gz_pm ha hx
  have h2 := gz_pm hb hy
  have h3 := gz_pm hc hz
  generalize a * x = k at *
  generalize b * y = l at *
  generalize c * z = m at *
  omega
theorem gz_sm3 {G : gz_V → Prop} (hG : gz_Sm G) {u v w : gz_V} (hu : G u) (hv : G v) (hw : G w) : (gz_dt u v w).natAbs ≤ 4374 := by
  obtain ⟨u1, u2, u3⟩ := hG u hu
  obtain ⟨h1, h2, h3⟩ := gz_sm2 hG hv hw
  exact gz_d3 u1 u2 u3 h3 h2 h1
theorem gz_le1 {a b : Int} {N : Nat} (h : (a * b).natAbs ≤ N) (ha : a ≠ 0) : b.natAbs ≤ N := by
  rw [Int.natAbs_mul] at h
  have h1 : 1 ≤ a.natAbs := by omega
  have h2 := Nat.mul_le_mul_right b.natAbs h1
  omega
/-- every row of G, by the basis -/
theorem gz_rw {G : gz_V → Prop} {a p q b s c : Int} (hs : ∀ v, gz_Sp (gz_B a p q b s c) v ↔ gz_Sp G v) {g : gz_V} (hg : G g) :
    ∃ i j k : Int, g = (i * a, i * p + j * b, i * q + j * s + k * c) := gz_Bs.1 ((hs g).2 (gz_SpG hg))
theorem gz_bda {G : gz_V → Prop} {a p q b s c : Int} (hG : gz_Sm G) (hs : ∀ v, gz_Sp (gz_B a p q b s c) v ↔ gz_Sp G v) : a.natAbs ≤ 9 := by
  refine gz_L1 (G := G) (fun u => u.1) (fun _ _ _ => rfl) rfl (fun g hg => (hG g hg).1) ((hs _).1 gz_sp0) ?_
  intro g hg
  obtain ⟨i, j, k, rfl⟩ := gz_rw hs hg
  exact ⟨i, Int.mul_comm i a⟩
theorem gz_bdb {G : gz_V → Prop} {a p q b s c : Int} (hG : gz_Sm G) (hs : ∀ v, gz_Sp (gz_B a p q b s c) v ↔ gz_Sp G v) (hz : gz_Z a p q b s) : b.natAbs ≤ 162 := by
  by_cases ha : a = 0
  · obtain ⟨hp, hq⟩ := hz.1 ha
    subst ha hp hq
    have h := gz_L1 (G := G) (N := 9) (fun u => u.2.1) (fun _ _ _ => rfl) rfl (fun g hg => (hG g hg).2.1) ((hs _).1 gz_sp1) (fun g hg => by
      obtain ⟨i, j, k, rfl⟩ := gz_rw hs hg
      exact ⟨j, by dsimp only; grind⟩)
    exact Nat.le_trans h (by decide)
  · have h := gz_L2 (G := G) (N := 162) gz_xy (fun u g v t => gz_xyl u g v t) (fun u g v t => gz_xyr u g v t) (fun v => (gz_xy0 v).1) (fun v => (gz_xy0 v).2)
      (fun g k hg hk => (gz_sm2 hG hg hk).1) ((hs _).1 gz_sp0) ((hs _).1 gz_sp1) (fun g k hg hk => by
        obtain ⟨i, j, k, rfl⟩ := gz_rw hs hg
        obtain ⟨i', j', k', rfl⟩ := gz_rw hs hk
        exact ⟨i * j' - j * i', by simp only [gz_xy]; grind⟩)
    have e : gz_xy (a, p, q) (0, b, s) = a * b := by simp only [gz_xy]; grind
    rw [e] at h
    exact gz_le1 h ha
theorem gz_bdp {G : gz_V → Prop} {a p q b s c : Int} (hG : gz_Sm G) (hs : ∀ v, gz_Sp (gz_B a p q b s c) v ↔ gz_Sp G v) (hb : b = 0) : p.natAbs ≤ 9 := by
  subst hb
  refine gz_L1 (G := G) (fun u => u.2.1) (fun _ _ _ => rfl) rfl (fun g hg => (hG g hg).2.1) ((hs _).1 gz_sp0) ?_
  intro g hg
  obtain ⟨i, j, k, rfl⟩ := gz_rw hs hg
  exact ⟨i, by dsimp only; grind⟩
theorem gz_bdc {G : gz_V → Prop} {a p q b s c : Int} (hG : gz_Sm G) (hs : ∀ v, gz_Sp (gz_B a p q b s c) v ↔ gz_Sp G v) (hz : gz_Z a p q b s) : c.natAbs ≤ 4374 := by
  by_cases ha : a = 0
  · obtain ⟨hp, hq⟩ := hz.1 ha
    subst ha hp hq
    by_cases hb : b = 0
    · have hs0 := hz.2 hb
      subst hb hs0
      have h := gz_L1 (G := G) (N := 9) (fun u => u.2.2) (fun _ _ _ => rfl) rfl (fun g hg => (hG g hg).2.2) ((hs _).1 gz_sp2) (fun g hg => by
        obtain ⟨i, j, k, rfl⟩ := gz_rw hs hg
        exact ⟨k, by dsimp only; grind⟩)
      exact Nat.le_trans h (by decide)
    · have h := gz_L2 (G := G) (N := 162) gz_yz (fun u g v t => gz_yzl u g v t) (fun u g v t => gz_yzr u g v t) (fun v => (gz_yz0 v).1) (fun v => (gz_yz0 v).2)
        (fun g k hg hk => (gz_sm2 hG hg hk).2.2) ((hs _).1 gz_sp1) ((hs _).1 gz_sp2) (fun g k hg hk => by
          obtain ⟨i, j, k, rfl⟩ := gz_rw hs hg
          obtain ⟨i', j', k', rfl⟩ := gz_rw hs hk
          exact ⟨j * k' - k * j', by simp only [gz_yz]; grind⟩)
      have e : gz_yz (0, b, s) (0, 0, c) = b * c := by simp only [gz_yz]; grind
      rw [e] at h
      exact Nat.le_trans (gz_le1 h hb) (by decide)
  · by_cases hb : b = 0
    · have hs0 := hz.2 hb
      subst hb hs0
      have h := gz_L2 (G := G) (N := 162) gz_xz (fun u g v t => gz_xzl u g v t) (fun u g v t => gz_xzr u g v t) (fun v => (gz_xz0 v).1) (fun v => (gz_xz0 v).2)
        (fun g k hg hk => (gz_sm2 hG hg hk).2.1) ((hs _).1 gz_sp0) ((hs _).1 gz_sp2) (fun g k hg hk => by
          obtain ⟨i, j, k, rfl⟩ := gz_rw hs hg
          obtain ⟨i', j', k', rfl⟩ := gz_rw hs hk
          exact ⟨i * k' - k * i', by simp only [gz_xz]; grind⟩)
      have e : gz_xz (a, p, q) (0, 0, c) = a * c := by simp only [gz_xz]; grind
      rw [e] at h
      exact Nat.le_trans (gz_le1 h ha) (by decide)
    · have h := gz_L3 (G := G) (N := 4374) (fun g k l hg hk hl => gz_sm3 hG hg hk hl) ((hs _).1 gz_sp0) ((hs _).1 gz_sp1) ((hs _).1 gz_sp2) (fun g k l hg hk hl => by
        obtain ⟨i, j, k, rfl⟩ := gz_rw hs hg
        obtain ⟨i', j', k', rfl⟩ := gz_rw hs hk
        obtain ⟨i2, j2, k2, rfl⟩ := gz_rw hs hl
        exact ⟨i * (j' * k2 - k' * j2) - j * (i' * k2 - k' * i2) + k * (i' * j2 - j' * i2), by simp only [gz_dt, gz_xy, gz_xz, gz_yz]; grind⟩)
      have e : gz_dt (a, p, q) (0, b, s) (0, 0, c) = a * (b * c) := by simp only [gz_dt, gz_xy, gz_xz, gz_yz]; grind
      rw [e] at h
      exact gz_le1 (gz_le1 h ha) hb
theorem gz_bds {G : gz_V → Prop} {a p q b s c : Int} (hG : gz_Sm G) (hs : ∀ v, gz_Sp (gz_B a p q b s c) v ↔ gz_Sp G v) (hz : gz_Z a p q b s) (hc : c = 0) : s.natAbs ≤ 162 := by
  subst hc
  by_cases ha : a = 0
  · obtain ⟨hp, hq⟩ := hz.1 ha
    subst ha hp hq
    have h := gz_L1 (G := G) (N := 9) (fun u => u.2.2) (fun _ _ _ => rfl) rfl (fun g hg => (hG g hg).2.2) ((hs _).1 gz_sp1) (fun g hg => by
      obtain ⟨i, j, k, rfl⟩ := gz_rw hs hg
      exact ⟨j, by dsimp only; grind⟩)
    exact Nat.le_trans h (by decide)
  · have h := gz_L2 (G := G) (N := 162) gz_xz (fun u g v t => gz_xzl u g v t) (fun u g v t => gz_xzr u g v t) (fun v => (gz_xz0 v).1) (fun v => (gz_xz0 v).2)
      (fun g k hg hk => (gz_sm2 hG hg hk).2.1) ((hs _).1 gz_sp0) ((hs _).1 gz_sp1) (fun g k hg hk => by
        obtain ⟨i, j, k, rfl⟩ := gz_rw hs hg
        obtain ⟨i', j', k', rfl⟩ := gz_rw hs hk
        exact ⟨i * j' - j * i', by simp only [gz_xz]; grind⟩)
    have e : gz_xz (a, p, q) (0, b, s) = a * s := by simp only [gz_xz]; grind
    rw [e] at h
    exact gz_le1 h ha
theorem gz_bdq {G : gz_V → Prop} {a p q b s c : Int} (hG : gz_Sm G) (hs : ∀ v, gz_Sp (gz_B a p q b s c) v ↔ gz_Sp G v) (hz : gz_Z a p q b s) (hc : c = 0)
    (hp : p.natAbs ≤ 162) : q.natAbs ≤ 26406 := by
  have h1 := gz_bds hG hs hz hc
  subst hc
  by_cases hb : b = 0
  · have hs0 := hz.2 hb
    subst hb hs0
    have h := gz_L1 (G := G) (N := 9) (fun u => u.2.2) (fun _ _ _ => rfl) rfl (fun g hg => (hG g hg).2.2) ((hs _).1 gz_sp0) (fun g hg => by
      obtain ⟨i, j, k, rfl⟩ := gz_rw hs hg
      exact ⟨i, by dsimp only; grind⟩)
    exact Nat.le_trans h (by decide)
  · have h := gz_L2 (G := G) (N := 162) gz_yz (fun u g v t => gz_yzl u g v t) (fun u g v t => gz_yzr u g v t) (fun v => (gz_yz0 v).1) (fun v => (gz_yz0 v).2)
      (fun g k hg hk => (gz_sm2 hG hg hk).2.2) ((hs _).1 gz_sp0) ((hs _).1 gz_sp1) (fun g k hg hk => by
        obtain ⟨i, j, k, rfl⟩ := gz_rw hs hg
        obtain ⟨i', j', k', rfl⟩ := gz_rw hs hk
        exact ⟨i * j' - j * i', by simp only [gz_yz]; grind⟩)
    have e : gz_yz (a, p, q) (0, b, s) = p * s - q * b := by simp only [gz_yz]
    rw [e] at h
    have h2 := gz_pm hp h1
    have h3 : (b * q).natAbs ≤ 26406 := by
      rw [Int.mul_comm b q]
      generalize p * s = x at *
      generalize q * b = y at *
      omega
    exact gz_le1 h3 hb
theorem gz_bd {G : gz_V → Prop} {a p q b s c : Int} (hG : gz_Sm G) (hs : ∀ v, gz_Sp (gz_B a p q b s c) v ↔ gz_Sp G v) (hH : gz_H a p q b s c) :
    a ≤ 9 ∧ b ≤ 162 ∧ c ≤ 4374 ∧ p.natAbs ≤ 162 ∧ q.natAbs ≤ 26406 ∧ s.natAbs ≤ 4374 := by
  obtain ⟨hz, h1, h2, h3, h4, h5⟩ := hH
  have ba := gz_bda hG hs
  have bb := gz_bdb hG hs hz
  have bc := gz_bdc hG hs hz
  have bp : p.natAbs ≤ 162 := by
    by_cases hb : b = 0
    · have := gz_bdp hG hs hb
      omega
    · have := h4 hb
      omega
  have bs : s.natAbs ≤ 4374 := by
    by_cases hc : c = 0
    · have := gz_bds hG hs hz hc
      omega
    · have := h5 hc
      omega
  have bq : q.natAbs ≤ 26406 := by
    by_cases hc : c = 0
    · exact gz_bdq hG hs hz hc bp
    · have := h5 hc
      omega
  omega
