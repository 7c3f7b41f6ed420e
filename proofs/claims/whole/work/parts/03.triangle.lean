/-! a triangular basis: its points, its multiples, its bounds -/
def gz_B (a p q b s c : Int) : gz_V → Prop := fun u => u = (a, p, q) ∨ u = (0, b, s) ∨ u = (0, 0, c)
theorem gz_Bs {a p q b s c : Int} {v : gz_V} : gz_Sp (gz_B a p q b s c) v ↔ ∃ i j k : Int, v = (i * a, i * p + j * b, i * q + j * s + k * c) := by
  constructor
  · intro h
    refine h (fun v => ∃ i j k : Int, v = (i * a, i * p + j * b, i * q + j * s + k * c)) ⟨0, 0, 0, by simp⟩ ?_
    intro u g t ⟨i, j, k, e⟩ hg
    subst e
    rcases hg with rfl | rfl | rfl
    · exact ⟨i + t, j, k, by apply gz_ext <;> simp only [gz_ad] <;> grind⟩
    · exact ⟨i, j + t, k, by apply gz_ext <;> simp only [gz_ad] <;> grind⟩
    · exact ⟨i, j, k + t, by apply gz_ext <;> simp only [gz_ad] <;> grind⟩
  · intro ⟨i, j, k, e⟩
    have h := gz_SpA k (gz_SpA j (gz_SpS i (gz_SpG (G := gz_B a p q b s c) (Or.inl rfl))) (Or.inr (Or.inl rfl))) (Or.inr (Or.inr rfl))
    have e2 : gz_ad (gz_ad (gz_sm i (a, p, q)) j (0, b, s)) k (0, 0, c) = v := by
      rw [e]
      apply gz_ext <;> simp only [gz_ad, gz_sm] <;> grind
    rw [e2] at h
    exact h
/-- a row whose step is 0 is 0 -/
def gz_Z (a p q b s : Int) : Prop := (a = 0 → p = 0 ∧ q = 0) ∧ (b = 0 → s = 0)
theorem gz_td0 (x : Int) : x.tdiv 0 = 0 := Int.tdiv_zero x
/-- membership, place by place, as contains() goes -/
theorem gz_in {a p q b s c x y z : Int} (hz : gz_Z a p q b s) : gz_Sp (gz_B a p q b s c) (x, y, z) ↔
    a ∣ x ∧ b ∣ y - x.tdiv a * p ∧ c ∣ z - x.tdiv a * q - (y - x.tdiv a * p).tdiv b * s := by
  rw [gz_Bs]
  constructor
  · intro ⟨i, j, k, e⟩
    obtain ⟨e1, e2, e3⟩ : x = i * a ∧ y = i * p + j * b ∧ z = i * q + j * s + k * c :=
      ⟨congrArg (fun w : gz_V => w.1) e, congrArg (fun w : gz_V => w.2.1) e, congrArg (fun w : gz_V => w.2.2) e⟩
    have hi : x.tdiv a * p = i * p ∧ x.tdiv a * q = i * q := by
      by_cases ha : a = 0
      · rw [(hz.1 ha).1, (hz.1 ha).2]; simp
      · rw [e1, Int.mul_tdiv_cancel i ha]; exact ⟨rfl, rfl⟩
    have ej : y - x.tdiv a * p = j * b := by rw [hi.1, e2]; omega
    have hj : (j * b).tdiv b * s = j * s := by
      by_cases hb : b = 0
      · rw [hz.2 hb]; simp
      · rw [Int.mul_tdiv_cancel j hb]
    rw [ej, hj, hi.2, e1, e3]
    exact ⟨⟨i, Int.mul_comm i a⟩, ⟨j, Int.mul_comm j b⟩, ⟨k, by rw [Int.mul_comm c k]; omega⟩⟩
  · intro ⟨h1, h2, k, h3⟩
    refine ⟨x.tdiv a, (y - x.tdiv a * p).tdiv b, k, ?_⟩
    have e1 := Int.tdiv_mul_cancel h1
    have e2 := Int.tdiv_mul_cancel h2
    refine gz_ext e1.symm ?_ ?_
    · dsimp only
      omega
    · dsimp only
      rw [Int.mul_comm k c]
      omega
theorem gz_sp0 {a p q b s c : Int} : gz_Sp (gz_B a p q b s c) (a, p, q) := gz_SpG (Or.inl rfl)
theorem gz_sp1 {a p q b s c : Int} : gz_Sp (gz_B a p q b s c) (0, b, s) := gz_SpG (Or.inr (Or.inl rfl))
theorem gz_sp2 {a p q b s c : Int} : gz_Sp (gz_B a p q b s c) (0, 0, c) := gz_SpG (Or.inr (Or.inr rfl))
/-- if no row of G has f, no point has; so a point with f other than 0 gives a row with it -/
theorem gz_row {G : gz_V → Prop} (f : gz_V → Int) (hl : ∀ u g t, f (gz_ad u t g) = f u + t * f g) (h0 : f (0, 0, 0) = 0)
    {u : gz_V} (hu : gz_Sp G u) (hn : f u ≠ 0) : ∃ g, G g ∧ f g ≠ 0 := by
  apply Classical.byContradiction
  intro hc
  refine hn (Int.zero_dvd.1 (gz_lin (gz_Idd 0) f hl h0 (fun g hg => ?_) u hu))
  by_cases e : f g = 0
  · show (0 : Int) ∣ f g
    rw [e]
    exact Int.dvd_refl 0
  · exact absurd ⟨g, hg, e⟩ hc
theorem gz_row2 {G : gz_V → Prop} (f : gz_V → gz_V → Int)
    (hl : ∀ u g v t, f (gz_ad u t g) v = f u v + t * f g v) (hr : ∀ u g v t, f v (gz_ad u t g) = f v u + t * f v g)
    (h0 : ∀ v, f (0, 0, 0) v = 0) (h1 : ∀ v, f v (0, 0, 0) = 0)
    {u v : gz_V} (hu : gz_Sp G u) (hv : gz_Sp G v) (hn : f u v ≠ 0) : ∃ g k, G g ∧ G k ∧ f g k ≠ 0 := by
  obtain ⟨g, hg, h⟩ := gz_row (fun x => f x v) (fun x w t => hl x w v t) (h0 v) hu hn
  obtain ⟨k, hk, h⟩ := gz_row (fun x => f g x) (fun x w t => hr x w g t) (h1 g) hv h
  exact ⟨g, k, hg, hk, h⟩
theorem gz_row3 {G : gz_V → Prop} {u v w : gz_V} (hu : gz_Sp G u) (hv : gz_Sp G v) (hw : gz_Sp G w) (hn : gz_dt u v w ≠ 0) :
    ∃ g k l, G g ∧ G k ∧ G l ∧ gz_dt g k l ≠ 0 := by
  have z1 : ∀ v w, gz_dt (0, 0, 0) v w = 0 := fun v w => by simp [gz_dt]
  have z2 : ∀ v w, gz_dt v (0, 0, 0) w = 0 := fun v w => by simp [gz_dt, gz_yz, gz_xz, gz_xy]
  have z3 : ∀ v w, gz_dt v w (0, 0, 0) = 0 := fun v w => by simp [gz_dt, gz_yz, gz_xz, gz_xy]
  obtain ⟨g, hg, h⟩ := gz_row (fun x => gz_dt x v w) (fun x y t => gz_dtl x y v w t) (z1 v w) hu hn
  obtain ⟨k, hk, h⟩ := gz_row (fun x => gz_dt g x w) (fun x y t => gz_dtm x y g w t) (z2 g w) hv h
  obtain ⟨l, hl, h⟩ := gz_row (fun x => gz_dt g k x) (fun x y t => gz_dtr x y g k t) (z3 g k) hw h
  exact ⟨g, k, l, hg, hk, hl, h⟩
theorem gz_dle {d n : Int} {N : Nat} (h : d ∣ n) (h0 : n ≠ 0) (hb : n.natAbs ≤ N) : d.natAbs ≤ N :=
  Nat.le_trans (Nat.le_of_dvd (by omega) (Int.natAbs_dvd_natAbs.2 h)) hb
/-- a form of basis points that divides every value at the rows is not above the rows' bound -/
theorem gz_L1 {G : gz_V → Prop} {N : Nat} (f : gz_V → Int) (hl : ∀ u g t, f (gz_ad u t g) = f u + t * f g) (h0 : f (0, 0, 0) = 0)
    (hb : ∀ g, G g → (f g).natAbs ≤ N) {u : gz_V} (hu : gz_Sp G u) (hd : ∀ g, G g → f u ∣ f g) : (f u).natAbs ≤ N := by
  by_cases hn : f u = 0
  · rw [hn]; exact Nat.zero_le N
  · obtain ⟨g, hg, h⟩ := gz_row f hl h0 hu hn
    exact gz_dle (hd g hg) h (hb g hg)
theorem gz_L2 {G : gz_V → Prop} {N : Nat} (f : gz_V → gz_V → Int)
    (hl : ∀ u g v t, f (gz_ad u t g) v = f u v + t * f g v) (hr : ∀ u g v t, f v (gz_ad u t g) = f v u + t * f v g)
    (h0 : ∀ v, f (0, 0, 0) v = 0) (h1 : ∀ v, f v (0, 0, 0) = 0)
    (hb : ∀ g k, G g → G k → (f g k).natAbs ≤ N) {u v : gz_V} (hu : gz_Sp G u) (hv : gz_Sp G v)
    (hd : ∀ g k, G g → G k → f u v ∣ f g k) : (f u v).natAbs ≤ N := by
  by_cases hn : f u v = 0
  · rw [hn]; exact Nat.zero_le N
  · obtain ⟨g, k, hg, hk, h⟩ := gz_row2 f hl hr h0 h1 hu hv hn
    exact gz_dle (hd g k hg hk) h (hb g k hg hk)
theorem gz_L3 {G : gz_V → Prop} {N : Nat} (hb : ∀ g k l, G g → G k → G l → (gz_dt g k l).natAbs ≤ N) {u v w : gz_V}
    (hu : gz_Sp G u) (hv : gz_Sp G v) (hw : gz_Sp G w) (hd : ∀ g k l, G g → G k → G l → gz_dt u v w ∣ gz_dt g k l) : (gz_dt u v w).natAbs ≤ N := by
  by_cases hn : gz_dt u v w = 0
  · rw [hn]; exact Nat.zero_le N
  · obtain ⟨g, k, l, hg, hk, hl, h⟩ := gz_row3 hu hv hw hn
    exact gz_dle (hd g k l hg hk hl) h (hb g k l hg hk hl)
theorem gz_xy0 (v : gz_V) : gz_xy (0, 0, 0) v = 0 ∧ gz_xy v (0, 0, 0) = 0 := by simp [gz_xy]
theorem gz_xz0 (v : gz_V) : gz_xz (0, 0, 0) v = 0 ∧ gz_xz v (0, 0, 0) = 0 := by simp [gz_xz]
theorem gz_yz0 (v : gz_V) : gz_yz (0, 0, 0) v = 0 ∧ gz_yz v (0, 0, 0) = 0 := by simp [gz_yz]
/-! steps that keep the span -/
theorem gz_SpE {G H : gz_V → Prop} (h1 : ∀ g, G g → gz_Sp H g) (h2 : ∀ g, H g → gz_Sp G g) (v : gz_V) : gz_Sp G v ↔ gz_Sp H v :=
  ⟨gz_SpM h1, gz_SpM h2⟩
theorem gz_SpV {G : gz_V → Prop} {u v w : gz_V} (t : Int) (hu : gz_Sp G u) (hv : gz_Sp G v) (h1 : w.1 = u.1 + t * v.1) (h2 : w.2.1 = u.2.1 + t * v.2.1)
    (h3 : w.2.2 = u.2.2 + t * v.2.2) : gz_Sp G w := by
  have e : w = gz_ad u t v := gz_ext h1 h2 h3
  rw [e]
  exact gz_SpAd t hu hv
theorem gz_plE {G H : gz_V → Prop} (h : ∀ v, gz_Sp G v ↔ gz_Sp H v) (w : gz_V) (v : gz_V) : gz_Sp (gz_pl G w) v ↔ gz_Sp (gz_pl H w) v := by
  apply gz_SpE
  · intro g hg
    rcases hg with hg | rfl
    · exact gz_SpM (fun u hu => gz_SpG (Or.inl hu)) ((h g).1 (gz_SpG hg))
    · exact gz_SpG (Or.inr rfl)
  · intro g hg
    rcases hg with hg | rfl
    · exact gz_SpM (fun u hu => gz_SpG (Or.inl hu)) ((h g).2 (gz_SpG hg))
    · exact gz_SpG (Or.inr rfl)
theorem gz_pl0 {G : gz_V → Prop} (v : gz_V) : gz_Sp (gz_pl G (0, 0, 0)) v ↔ gz_Sp G v := by
  apply gz_SpE
  · intro g hg
    rcases hg with hg | rfl
    · exact gz_SpG hg
    · exact gz_Sp0
  · intro g hg
    exact gz_SpG (Or.inl hg)
theorem gz_st0 {a p q b s c x y z : Int} (t : Int) (v : gz_V) :
    gz_Sp (gz_pl (gz_B a p q b s c) (x, y, z)) v ↔ gz_Sp (gz_pl (gz_B x y z b s c) (a - t * x, p - t * y, q - t * z)) v := by
  apply gz_SpE
  · intro g hg
    rcases hg with (rfl | rfl | rfl) | rfl
    · exact gz_SpV t (gz_SpG (Or.inr rfl)) (gz_SpG (Or.inl (Or.inl rfl))) (by dsimp only; grind) (by dsimp only; grind) (by dsimp only; grind)
    · exact gz_SpG (Or.inl (Or.inr (Or.inl rfl)))
    · exact gz_SpG (Or.inl (Or.inr (Or.inr rfl)))
    · exact gz_SpG (Or.inl (Or.inl rfl))
  · intro g hg
    rcases hg with (rfl | rfl | rfl) | rfl
    · exact gz_SpG (Or.inr rfl)
    · exact gz_SpG (Or.inl (Or.inr (Or.inl rfl)))
    · exact gz_SpG (Or.inl (Or.inr (Or.inr rfl)))
    · exact gz_SpV (-t) (gz_SpG (Or.inl (Or.inl rfl))) (gz_SpG (Or.inr rfl)) (by dsimp only; grind) (by dsimp only; grind) (by dsimp only; grind)
theorem gz_st1 {a p q b s c y z : Int} (t : Int) (v : gz_V) :
    gz_Sp (gz_pl (gz_B a p q b s c) (0, y, z)) v ↔ gz_Sp (gz_pl (gz_B a p q y z c) (0, b - t * y, s - t * z)) v := by
  apply gz_SpE
  · intro g hg
    rcases hg with (rfl | rfl | rfl) | rfl
    · exact gz_SpG (Or.inl (Or.inl rfl))
    · exact gz_SpV t (gz_SpG (Or.inr rfl)) (gz_SpG (Or.inl (Or.inr (Or.inl rfl)))) (by dsimp only; grind) (by dsimp only; grind) (by dsimp only; grind)
    · exact gz_SpG (Or.inl (Or.inr (Or.inr rfl)))
    · exact gz_SpG (Or.inl (Or.inr (Or.inl rfl)))
  · intro g hg
    rcases hg with (rfl | rfl | rfl) | rfl
    · exact gz_SpG (Or.inl (Or.inl rfl))
    · exact gz_SpG (Or.inr rfl)
    · exact gz_SpG (Or.inl (Or.inr (Or.inr rfl)))
    · exact gz_SpV (-t) (gz_SpG (Or.inl (Or.inr (Or.inl rfl)))) (gz_SpG (Or.inr rfl)) (by dsimp only; grind) (by dsimp only; grind) (by dsimp only; grind)
theorem gz_st2 {a p q b s c z : Int} (t : Int) (v : gz_V) :
    gz_Sp (gz_pl (gz_B a p q b s c) (0, 0, z)) v ↔ gz_Sp (gz_pl (gz_B a p q b s z) (0, 0, c - t * z)) v := by
  apply gz_SpE
  · intro g hg
    rcases hg with (rfl | rfl | rfl) | rfl
    · exact gz_SpG (Or.inl (Or.inl rfl))
    · exact gz_SpG (Or.inl (Or.inr (Or.inl rfl)))
    · exact gz_SpV t (gz_SpG (Or.inr rfl)) (gz_SpG (Or.inl (Or.inr (Or.inr rfl)))) (by dsimp only; grind) (by dsimp only; grind) (by dsimp only; grind)
    · exact gz_SpG (Or.inl (Or.inr (Or.inr rfl)))
  · intro g hg
    rcases hg with (rfl | rfl | rfl) | rfl
    · exact gz_SpG (Or.inl (Or.inl rfl))
    · exact gz_SpG (Or.inl (Or.inr (Or.inl rfl)))
    · exact gz_SpG (Or.inr rfl)
    · exact gz_SpV (-t) (gz_SpG (Or.inl (Or.inr (Or.inr rfl)))) (gz_SpG (Or.inr rfl)) (by dsimp only; grind) (by dsimp only; grind) (by dsimp only; grind)
/-- one basis row changed to e times itself plus t times another (e = 1 or -1) -/
theorem gz_sg0 {a p q b s c : Int} (v : gz_V) : gz_Sp (gz_B a p q b s c) v ↔ gz_Sp (gz_B (-a) (-p) (-q) b s c) v := by
  apply gz_SpE
  · intro g hg
    rcases hg with rfl | rfl | rfl
    · exact gz_SpV (-1) gz_Sp0 (gz_SpG (Or.inl rfl)) (by dsimp only; grind) (by dsimp only; grind) (by dsimp only; grind)
    · exact gz_SpG (Or.inr (Or.inl rfl))
    · exact gz_SpG (Or.inr (Or.inr rfl))
  · intro g hg
    rcases hg with rfl | rfl | rfl
    · exact gz_SpV (-1) gz_Sp0 (gz_SpG (Or.inl rfl)) (by dsimp only; grind) (by dsimp only; grind) (by dsimp only; grind)
    · exact gz_SpG (Or.inr (Or.inl rfl))
    · exact gz_SpG (Or.inr (Or.inr rfl))
theorem gz_sg1 {a p q b s c : Int} (v : gz_V) : gz_Sp (gz_B a p q b s c) v ↔ gz_Sp (gz_B a p q (-b) (-s) c) v := by
  apply gz_SpE
  · intro g hg
    rcases hg with rfl | rfl | rfl
    · exact gz_SpG (Or.inl rfl)
    · exact gz_SpV (-1) gz_Sp0 (gz_SpG (Or.inr (Or.inl rfl))) (by dsimp only; grind) (by dsimp only; grind) (by dsimp only; grind)
    · exact gz_SpG (Or.inr (Or.inr rfl))
  · intro g hg
    rcases hg with rfl | rfl | rfl
    · exact gz_SpG (Or.inl rfl)
    · exact gz_SpV (-1) gz_Sp0 (gz_SpG (Or.inr (Or.inl rfl))) (by dsimp only; grind) (by dsimp only; grind) (by dsimp only; grind)
    · exact gz_SpG (Or.inr (Or.inr rfl))
theorem gz_sg2 {a p q b s c : Int} (v : gz_V) : gz_Sp (gz_B a p q b s c) v ↔ gz_Sp (gz_B a p q b s (-c)) v := by
  apply gz_SpE
  · intro g hg
    rcases hg with rfl | rfl | rfl
    · exact gz_SpG (Or.inl rfl)
    · exact gz_SpG (Or.inr (Or.inl rfl))
    · exact gz_SpV (-1) gz_Sp0 (gz_SpG (Or.inr (Or.inr rfl))) (by dsimp only; grind) (by dsimp only; grind) (by dsimp only; grind)
  · intro g hg
    rcases hg with rfl | rfl | rfl
    · exact gz_SpG (Or.inl rfl)
    · exact gz_SpG (Or.inr (Or.inl rfl))
    · exact gz_SpV (-1) gz_Sp0 (gz_SpG (Or.inr (Or.inr rfl))) (by dsimp only; grind) (by dsimp only; grind) (by dsimp only; grind)
theorem gz_rg0 {a p q b s c : Int} (t : Int) (v : gz_V) : gz_Sp (gz_B a p q b s c) v ↔ gz_Sp (gz_B a (p - t * b) (q - t * s) b s c) v := by
  apply gz_SpE
  · intro g hg
    rcases hg with rfl | rfl | rfl
    · exact gz_SpV t (gz_SpG (Or.inl rfl)) (gz_SpG (Or.inr (Or.inl rfl))) (by dsimp only; grind) (by dsimp only; grind) (by dsimp only; grind)
    · exact gz_SpG (Or.inr (Or.inl rfl))
    · exact gz_SpG (Or.inr (Or.inr rfl))
  · intro g hg
    rcases hg with rfl | rfl | rfl
    · exact gz_SpV (-t) (gz_SpG (Or.inl rfl)) (gz_SpG (Or.inr (Or.inl rfl))) (by dsimp only; grind) (by dsimp only; grind) (by dsimp only; grind)
    · exact gz_SpG (Or.inr (Or.inl rfl))
    · exact gz_SpG (Or.inr (Or.inr rfl))
theorem gz_rg1 {a p q b s c : Int} (t : Int) (v : gz_V) : gz_Sp (gz_B a p q b s c) v ↔ gz_Sp (gz_B a p q b (s - t * c) c) v := by
  apply gz_SpE
  · intro g hg
    rcases hg with rfl | rfl | rfl
    · exact gz_SpG (Or.inl rfl)
    · exact gz_SpV t (gz_SpG (Or.inr (Or.inl rfl))) (gz_SpG (Or.inr (Or.inr rfl))) (by dsimp only; grind) (by dsimp only; grind) (by dsimp only; grind)
    · exact gz_SpG (Or.inr (Or.inr rfl))
  · intro g hg
    rcases hg with rfl | rfl | rfl
    · exact gz_SpG (Or.inl rfl)
    · exact gz_SpV (-t) (gz_SpG (Or.inr (Or.inl rfl))) (gz_SpG (Or.inr (Or.inr rfl))) (by dsimp only; grind) (by dsimp only; grind) (by dsimp only; grind)
    · exact gz_SpG (Or.inr (Or.inr rfl))
theorem gz_rg2 {a p q b s c : Int} (t : Int) (v : gz_V) : gz_Sp (gz_B a p q b s c) v ↔ gz_Sp (gz_B a p (q - t * c) b s c) v := by
  apply gz_SpE
  · intro g hg
    rcases hg with rfl | rfl | rfl
    · exact gz_SpV t (gz_SpG (Or.inl rfl)) (gz_SpG (Or.inr (Or.inr rfl))) (by dsimp only; grind) (by dsimp only; grind) (by dsimp only; grind)
    · exact gz_SpG (Or.inr (Or.inl rfl))
    · exact gz_SpG (Or.inr (Or.inr rfl))
  · intro g hg
    rcases hg with rfl | rfl | rfl
    · exact gz_SpV (-t) (gz_SpG (Or.inl rfl)) (gz_SpG (Or.inr (Or.inr rfl))) (by dsimp only; grind) (by dsimp only; grind) (by dsimp only; grind)
    · exact gz_SpG (Or.inr (Or.inl rfl))
    · exact gz_SpG (Or.inr (Or.inr rfl))
