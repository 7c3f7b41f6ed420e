/-! the quotients that give a corner where the step is wanting; counts of the box -/
theorem gz_td {n d k : Int} (h : n = k * d) (hd : d ≠ 0) : n.tdiv d = k := by
  rw [h]
  exact Int.mul_tdiv_cancel k hd
theorem gz_qy {G : gz_V → Prop} {a p q b s c : Int} (hs : ∀ v, gz_Sp (gz_B a p q b s c) v ↔ gz_Sp G v) (hb : b = 0) {g : gz_V} (hg : G g) (hn : g.1 ≠ 0) :
    (a * g.2.1).tdiv g.1 = p := by
  obtain ⟨i, j, k, rfl⟩ := gz_rw hs hg
  subst hb
  exact gz_td (by dsimp only; grind) hn
theorem gz_qz {G : gz_V → Prop} {a p q b s c : Int} (hs : ∀ v, gz_Sp (gz_B a p q b s c) v ↔ gz_Sp G v) (hc : c = 0) {g k : gz_V} (hg : G g) (hk : G k) (hn : gz_xy g k ≠ 0) :
    (p * gz_xz g k - a * gz_yz g k).tdiv (gz_xy g k) = q ∧ (b * gz_xz g k - 0 * gz_yz g k).tdiv (gz_xy g k) = s := by
  obtain ⟨i, j, l, rfl⟩ := gz_rw hs hg
  obtain ⟨i', j', l', rfl⟩ := gz_rw hs hk
  subst hc
  refine ⟨gz_td ?_ hn, gz_td ?_ hn⟩ <;> simp only [gz_xy, gz_xz, gz_yz] <;> grind
/-- no two rows with xy other than 0: one of the two steps is wanting -/
theorem gz_ab {G : gz_V → Prop} {a p q b s c : Int} (hs : ∀ v, gz_Sp (gz_B a p q b s c) v ↔ gz_Sp G v) (h : ∀ g k, G g → G k → gz_xy g k = 0) : a * b = 0 := by
  apply Classical.byContradiction
  intro hn
  have e : gz_xy (a, p, q) (0, b, s) = a * b := by simp only [gz_xy]; grind
  obtain ⟨g, k, hg, hk, hne⟩ := gz_row2 (G := G) gz_xy (fun u g v t => gz_xyl u g v t) (fun u g v t => gz_xyr u g v t) (fun v => (gz_xy0 v).1) (fun v => (gz_xy0 v).2)
    ((hs _).1 gz_sp0) ((hs _).1 gz_sp1) (by rw [e]; exact hn)
  exact hne (h g k hg hk)
theorem gz_qz3 {G : gz_V → Prop} {a p q b s c : Int} (hs : ∀ v, gz_Sp (gz_B a p q b s c) v ↔ gz_Sp G v) (hz : gz_Z a p q b s) (hc : c = 0) (hb : b = 0) (ha : a ≠ 0) {g : gz_V} (hg : G g) :
    (g.1 ≠ 0 → (a * g.2.2).tdiv g.1 = q) ∧ (g.1 = 0 → g.2.1 = 0) := by
  obtain ⟨i, j, l, rfl⟩ := gz_rw hs hg
  have h0 := hz.2 hb
  subst hc hb h0
  refine ⟨fun hn => gz_td (by dsimp only; grind) hn, fun h => ?_⟩
  have h1 : i * a = 0 := h
  rcases Int.mul_eq_zero.1 h1 with h2 | h2
  · show i * p + j * 0 = 0
    rw [h2]
    omega
  · exact absurd h2 ha
theorem gz_qz4 {G : gz_V → Prop} {a p q b s c : Int} (hs : ∀ v, gz_Sp (gz_B a p q b s c) v ↔ gz_Sp G v) (hz : gz_Z a p q b s) (hc : c = 0) (ha : a = 0) {g : gz_V} (hg : G g) :
    g.1 = 0 ∧ (g.2.1 ≠ 0 → (b * g.2.2).tdiv g.2.1 = s) := by
  obtain ⟨i, j, l, rfl⟩ := gz_rw hs hg
  obtain ⟨hp, hq⟩ := hz.1 ha
  subst hc ha hp hq
  refine ⟨by dsimp only; grind, fun hn => gz_td (by dsimp only; grind) hn⟩
theorem gz_ex1 {G : gz_V → Prop} {a p q b s c : Int} (hs : ∀ v, gz_Sp (gz_B a p q b s c) v ↔ gz_Sp G v) (ha : a ≠ 0) : ∃ g, G g ∧ g.1 ≠ 0 :=
  gz_row (G := G) (fun u => u.1) (fun _ _ _ => rfl) rfl ((hs _).1 gz_sp0) ha
theorem gz_ex2 {G : gz_V → Prop} {a p q b s c : Int} (hs : ∀ v, gz_Sp (gz_B a p q b s c) v ↔ gz_Sp G v) (hb : b ≠ 0) : ∃ g, G g ∧ g.2.1 ≠ 0 :=
  gz_row (G := G) (fun u => u.2.1) (fun _ _ _ => rfl) rfl ((hs _).1 gz_sp1) hb
theorem gz_uq {b y p : Int} (h : b ∣ y - p) (hy : 0 ≤ y ∧ y < b) (hp : 0 ≤ p ∧ p < b) : y = p := by
  obtain ⟨k, hk⟩ := h
  by_cases h0 : k = 0
  · rw [h0, Int.mul_zero] at hk
    omega
  · have h1 : b.natAbs * 1 ≤ b.natAbs * k.natAbs := Nat.mul_le_mul_left _ (by omega)
    have h2 : (b * k).natAbs = b.natAbs * k.natAbs := Int.natAbs_mul b k
    rw [← hk] at h2
    omega
/-! the box of the search -/
def gz_sq (x y z : Int) : Int := x * x + y * y + z * z
noncomputable def gz_pt (T : gz_V → Prop) (l x y z : Int) : Nat := gz_ind (T (x, y, z) ∧ gz_sq x y z = l)
noncomputable def gz_CX (T : gz_V → Prop) (l : Int) : Nat :=
  gz_S 31 (fun i => gz_S 31 (fun j => gz_S 31 (fun k => gz_pt T l ((i : Int) - 15) ((j : Int) - 15) ((k : Int) - 15))))
noncomputable def gz_CY (T : gz_V → Prop) (l : Int) : Nat :=
  gz_S 1089 (fun i => gz_S 33 (fun k => gz_pt T l (((i / 33 : Nat) : Int) - 16) (((i % 33 : Nat) : Int) - 16) ((k : Int) - 16)))
theorem gz_sq0 (x : Int) : 0 ≤ x * x := by
  rw [← Int.natAbs_mul_self]
  exact Int.natCast_nonneg _
theorem gz_pt0 {T : gz_V → Prop} {l x y z : Int} (hl : l ≤ 243) (h : x.natAbs = 16 ∨ y.natAbs = 16 ∨ z.natAbs = 16) : gz_pt T l x y z = 0 := by
  refine gz_ind0 (fun ⟨_, e⟩ => ?_)
  have h1 := gz_sq0 x
  have h2 := gz_sq0 y
  have h3 := gz_sq0 z
  simp only [gz_sq] at e
  have h4 : ∀ u : Int, u.natAbs = 16 → u * u = 256 := by
    intro u hu
    have h5 : u = 16 ∨ u = -16 := by omega
    rcases h5 with rfl | rfl <;> decide
  rcases h with h | h | h
  · have := h4 x h
    omega
  · have := h4 y h
    omega
  · have := h4 z h
    omega
theorem gz_tot {T : gz_V → Prop} {l : Int} (hl : l ≤ 243) : gz_CX T l = gz_CY T l := by
  have e1 : gz_CY T l = gz_S 33 (fun i => gz_S 33 (fun j => gz_S 33 (fun k => gz_pt T l ((i : Int) - 16) ((j : Int) - 16) ((k : Int) - 16)))) :=
    gz_Sdm (n := 33) (by decide) 33 (fun j i => gz_S 33 (fun k => gz_pt T l ((i : Int) - 16) ((j : Int) - 16) ((k : Int) - 16)))
  rw [e1]
  refine (gz_S33 ?_ ?_ ?_).symm
  · exact gz_S0 (fun j _ => gz_S0 (fun k _ => gz_pt0 hl (Or.inl (by decide))))
  · exact gz_S0 (fun j _ => gz_S0 (fun k _ => gz_pt0 hl (Or.inl (by decide))))
  · intro i hi
    refine gz_S33 ?_ ?_ ?_
    · exact gz_S0 (fun k _ => gz_pt0 hl (Or.inr (Or.inl (by decide))))
    · exact gz_S0 (fun k _ => gz_pt0 hl (Or.inr (Or.inl (by decide))))
    · intro j hj
      refine gz_S33 ?_ ?_ ?_
      · exact gz_pt0 hl (Or.inr (Or.inr (by decide)))
      · exact gz_pt0 hl (Or.inr (Or.inr (by decide)))
      · intro k hk
        have a1 : ((i + 1 : Nat) : Int) - 16 = (i : Int) - 15 := by omega
        have a2 : ((j + 1 : Nat) : Int) - 16 = (j : Int) - 15 := by omega
        have a3 : ((k + 1 : Nat) : Int) - 16 = (k : Int) - 15 := by omega
        show gz_pt T l (((i + 1 : Nat) : Int) - 16) (((j + 1 : Nat) : Int) - 16) (((k + 1 : Nat) : Int) - 16) = gz_pt T l ((i : Int) - 15) ((j : Int) - 15) ((k : Int) - 15)
        rw [a1, a2, a3]
theorem gz_ge1 {T : gz_V → Prop} {l x y z : Int} (hT : T (x, y, z)) (hx : x.natAbs ≤ 15) (hy : y.natAbs ≤ 15) (hz : z.natAbs ≤ 15) (hl : gz_sq x y z = l) : 1 ≤ gz_CX T l := by
  have e : gz_pt T l (((x + 15).toNat : Int) - 15) (((y + 15).toNat : Int) - 15) (((z + 15).toNat : Int) - 15) = 1 := by
    have a1 : ((x + 15).toNat : Int) - 15 = x := by omega
    have a2 : ((y + 15).toNat : Int) - 15 = y := by omega
    have a3 : ((z + 15).toNat : Int) - 15 = z := by omega
    rw [a1, a2, a3]
    exact gz_ind1 ⟨hT, hl⟩
  have i1 : (x + 15).toNat < 31 := by omega
  have i2 : (y + 15).toNat < 31 := by omega
  have i3 : (z + 15).toNat < 31 := by omega
  have k1 := gz_Sge (f := fun i : Nat => gz_S 31 (fun j => gz_S 31 (fun k => gz_pt T l ((i : Int) - 15) ((j : Int) - 15) ((k : Int) - 15)))) i1
  have k2 := gz_Sge (f := fun j : Nat => gz_S 31 (fun k => gz_pt T l (((x + 15).toNat : Int) - 15) ((j : Int) - 15) ((k : Int) - 15))) i2
  have k3 := gz_Sge (f := fun k : Nat => gz_pt T l (((x + 15).toNat : Int) - 15) (((y + 15).toNat : Int) - 15) ((k : Int) - 15)) i3
  rw [e] at k3
  exact Nat.le_trans (Nat.le_trans k3 k2) k1
