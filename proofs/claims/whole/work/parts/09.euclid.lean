/-! Euclid's steps of the basis rows with the rest: what lasts, place by place -/
def gz_P0 (T : gz_V → Prop) (b s c a p q x y z : Int) : Prop :=
  (∀ v, gz_Sp (gz_pl (gz_B a p q b s c) (x, y, z)) v ↔ T v) ∧ a.natAbs ≤ 9 ∧ x.natAbs ≤ 9 ∧ (a = 0 → p = 0 ∧ q = 0) ∧
  (p.natAbs ≤ 237735 ∧ y.natAbs ≤ 237735 ∧ y.natAbs * a.natAbs + p.natAbs * x.natAbs ≤ 237735) ∧
  (q.natAbs ≤ 237735 ∧ z.natAbs ≤ 237735 ∧ z.natAbs * a.natAbs + q.natAbs * x.natAbs ≤ 237735)
theorem gz_ml {a x N : Nat} (h : x ≤ N) (hx : x ≠ 0) : a % x ≤ N := by
  have := Nat.mod_lt a (Nat.pos_of_ne_zero hx)
  omega
theorem gz_P0s {T : gz_V → Prop} {b s c a p q x y z : Int} (h : gz_P0 T b s c a p q x y z) (hx : x ≠ 0) :
    gz_P0 T b s c x y z (a - a.tdiv x * x) (p - a.tdiv x * y) (q - a.tdiv x * z) := by
  obtain ⟨h1, h2, h3, h4, ⟨h5, h6, h7⟩, h8, h9, h10⟩ := h
  have e1 := gz_e5 hx h7
  have e2 := gz_e5 hx h10
  refine ⟨fun v => (gz_st0 (a.tdiv x) v).symm.trans (h1 v), h3, ?_, fun h => absurd h hx, ⟨h6, e1.1, e1.2⟩, h9, e2.1, e2.2⟩
  rw [gz_e1]
  exact gz_ml h3 (by omega)
def gz_P1 (T : gz_V → Prop) (a p q c b s y z : Int) : Prop :=
  (∀ v, gz_Sp (gz_pl (gz_B a p q b s c) (0, y, z)) v ↔ T v) ∧ b.natAbs ≤ 237735 ∧ y.natAbs ≤ 237735 ∧ (b = 0 → s = 0) ∧
  (s.natAbs ≤ 1078365960 ∧ z.natAbs ≤ 1078365960 ∧ z.natAbs * b.natAbs + s.natAbs * y.natAbs ≤ 1078365960)
theorem gz_P1s {T : gz_V → Prop} {a p q c b s y z : Int} (h : gz_P1 T a p q c b s y z) (hy : y ≠ 0) :
    gz_P1 T a p q c y z (b - b.tdiv y * y) (s - b.tdiv y * z) := by
  obtain ⟨h1, h2, h3, h4, h5, h6, h7⟩ := h
  have e1 := gz_e5 hy h7
  refine ⟨fun v => (gz_st1 (b.tdiv y) v).symm.trans (h1 v), h3, ?_, fun h => absurd h hy, h6, e1.1, e1.2⟩
  rw [gz_e1]
  exact gz_ml h3 (by omega)
def gz_P2 (T : gz_V → Prop) (a p q b s c z : Int) : Prop :=
  (∀ v, gz_Sp (gz_pl (gz_B a p q b s c) (0, 0, z)) v ↔ T v) ∧ c.natAbs ≤ 1078365960 ∧ z.natAbs ≤ 1078365960
theorem gz_P2s {T : gz_V → Prop} {a p q b s c z : Int} (h : gz_P2 T a p q b s c z) (hz : z ≠ 0) :
    gz_P2 T a p q b s z (c - c.tdiv z * z) := by
  obtain ⟨h1, h2, h3⟩ := h
  refine ⟨fun v => (gz_st2 (c.tdiv z) v).symm.trans (h1 v), h3, ?_⟩
  rw [gz_e1]
  exact gz_ml h3 (by omega)
theorem gz_Pi {A P Q X : Nat} (h1 : A ≤ 9) (h2 : P ≤ 26406) (h3 : X ≤ 9) (h4 : Q ≤ 9) : Q * A + P * X ≤ 237735 := by
  have k1 := Nat.mul_le_mul h4 h1
  have k2 := Nat.mul_le_mul h2 h3
  omega
/-- from the basis in its ranges, with a row of small numbers -/
theorem gz_P0i {G : gz_V → Prop} {a p q b s c x y z : Int} (hG : gz_Sm G) (hs : ∀ v, gz_Sp (gz_B a p q b s c) v ↔ gz_Sp G v) (hH : gz_H a p q b s c)
    (hx : x.natAbs ≤ 9) (hy : y.natAbs ≤ 9) (hz : z.natAbs ≤ 9) : gz_P0 (gz_Sp (gz_pl G (x, y, z))) b s c a p q x y z := by
  obtain ⟨b1, b2, b3, b4, b5, b6⟩ := gz_bd hG hs hH
  obtain ⟨h0, h1, h2, h3, h4, h5⟩ := hH
  have ha : a.natAbs ≤ 9 := by omega
  refine ⟨gz_plE hs (x, y, z), ha, hx, h0.1, ⟨by omega, by omega, ?_⟩, by omega, by omega, ?_⟩
  · have k1 := Nat.mul_le_mul hy ha
    have k2 := Nat.mul_le_mul (show p.natAbs ≤ 26406 by omega) hx
    omega
  · have k1 := Nat.mul_le_mul hz ha
    have k2 := Nat.mul_le_mul b5 hx
    omega
theorem gz_P1i {T : gz_V → Prop} {a p q b s c y z : Int} (h : gz_P0 T b s c a p q 0 y z) (hb : b.natAbs ≤ 162) (hs : s.natAbs ≤ 4374) (h0 : b = 0 → s = 0) :
    gz_P1 T a p q c b s y z := by
  obtain ⟨h1, h2, h3, h4, ⟨h5, h6, h7⟩, h8, h9, h10⟩ := h
  refine ⟨h1, by omega, h6, h0, by omega, by omega, ?_⟩
  have k1 := Nat.mul_le_mul h9 hb
  have k2 := Nat.mul_le_mul hs h6
  omega
theorem gz_P2i {T : gz_V → Prop} {a p q b s c z : Int} (h : gz_P1 T a p q c b s 0 z) (hc : c.natAbs ≤ 4374) : gz_P2 T a p q b s c z := by
  obtain ⟨h1, h2, h3, h4, h5, h6, h7⟩ := h
  exact ⟨h1, by omega, h6⟩
/-- after the three places -/
def gz_P3 (T : gz_V → Prop) (a p q b s c : Int) : Prop :=
  (∀ v, gz_Sp (gz_B a p q b s c) v ↔ T v) ∧ gz_Z a p q b s ∧ a.natAbs ≤ 9 ∧ p.natAbs ≤ 237735 ∧ q.natAbs ≤ 237735 ∧ b.natAbs ≤ 237735 ∧
    s.natAbs ≤ 1078365960 ∧ c.natAbs ≤ 1078365960
theorem gz_P3i {T : gz_V → Prop} {a p q b s c b0 s0 c0 c1 y0 z0 z1 : Int} (h0 : gz_P0 T b0 s0 c0 a p q 0 y0 z0) (h1 : gz_P1 T a p q c1 b s 0 z1) (h2 : gz_P2 T a p q b s c 0) :
    gz_P3 T a p q b s c := by
  obtain ⟨_, a2, a3, a4, ⟨a5, _, _⟩, a8, _, _⟩ := h0
  obtain ⟨_, b2, b3, b4, b5, _, _⟩ := h1
  obtain ⟨c1, c2, _⟩ := h2
  exact ⟨fun v => (gz_pl0 v).symm.trans (c1 v), ⟨a4, b4⟩, a2, a5, a8, b2, b5, c2⟩
/-- the times that reduceNumber takes away -/
def gz_tm (n d t : Int) : Prop := 0 ≤ n - t * d ∧ n - t * d < d ∧ (n = 0 → t = 0) ∧ t.natAbs ≤ n.natAbs + 1
theorem gz_tma {n d : Int} (hd : 0 < d) : (n < n.tdiv d * d → gz_tm n d (n.tdiv d - 1)) ∧ (n.tdiv d * d ≤ n → gz_tm n d (n.tdiv d)) := by
  have h1 : (n - n.tdiv d * d).natAbs < d.natAbs := by
    rw [gz_e1]
    exact Nat.mod_lt _ (by omega)
  have h2 : (n.tdiv d).natAbs ≤ n.natAbs := by
    rw [gz_e2]
    exact Nat.div_le_self _ _
  have h3 : n = 0 → n.tdiv d = 0 := fun h => by rw [h]; exact Int.zero_tdiv d
  have h4 : (n.tdiv d - 1) * d = n.tdiv d * d - d := by rw [Int.sub_mul, Int.one_mul]
  constructor
  · intro h
    refine ⟨by omega, by omega, fun h0 => ?_, by omega⟩
    have h5 := h3 h0
    rw [h5, h0, Int.zero_mul] at h
    omega
  · intro h
    exact ⟨by omega, by omega, h3, by omega⟩
theorem gz_sgn {a p q : Int} : (a < 0 → 0 < -a ∧ (-a).natAbs = a.natAbs ∧ (-p).natAbs = p.natAbs ∧ (-q).natAbs = q.natAbs) := by
  intro h
  omega
