/-! X: the search for the shortest points -/
section
variable {post : SX → Prop} {C : Nat → Int32} {β ρ : Nat → Int64} {n : Nat} {a p q b s c : Int}
theorem gx_cmp {L : Int} {t : Nat} {Cc : Int → Nat} (hb : gz_bs β a p q b s c) (hH : gz_H a p q b s c) (hB : gz_Bd a p q b s c) {x y z : Int} (hx : x.natAbs ≤ 15) (hy : y.natAbs ≤ 15) (hz : z.natAbs ≤ 15)
    (hS : gz_Se 243 Cc L t) (h : ∀ L' t' ρ', gz_Se 243 (fun l => Cc l + gz_pt (gz_Sp (gz_B a p q b s c)) l x y z) L' t' → post (nI n, gz_i L', nI t', C, β, ρ')) :
    wpX_compareWithShortest post (nI n, gz_i L, nI t, C, β, ρ) (gz_i x) (gz_i y) (gz_i z) := by
  have e4 : gz_i x * gz_i x + gz_i y * gz_i y + gz_i z * gz_i z = gz_i (gz_sq x y z) := by
    rw [gz_im, gz_im, gz_im, gz_ia, gz_ia]
    rfl
  have m1 := gz_pm hx hx
  have m2 := gz_pm hy hy
  have m3 := gz_pm hz hz
  have qb : gz_sq x y z ≤ 675 := by
    unfold gz_sq
    omega
  have q0 : 0 ≤ gz_sq x y z := by
    have a1 := gz_sq0 x
    have a2 := gz_sq0 y
    have a3 := gz_sq0 z
    unfold gz_sq
    omega
  have l0 := hS.1
  have l1 := hS.2.1
  refine nm_r e4 (gz_be (gz_sq x y z) 0 (fun e => h L t ρ (gz_SeN hS (Or.inr (Or.inl (by omega))))) (fun e => ?_))
  refine gz_bt L (gz_sq x y z) (fun hlt => h L t ρ (gz_SeN hS (Or.inr (Or.inr hlt)))) (fun hle => ?_)
  refine gx_con hb hH hB (by omega) (by omega) (by omega) (fun hm ρ' => br_f (by decide) ?_) (fun hm ρ' => br_t rfl (h L t ρ' (gz_SeN hS (Or.inl hm))))
  refine gz_bl L (gz_sq x y z) (fun h2 => nm_r (nI_1 t) (h L (t + 1) ρ' (gz_SeE hS hm (by omega)))) (fun h2 => nm_r (show (0 : Int32) + 1 = nI 1 by decide) (h (gz_sq x y z) 1 ρ' (gz_SeL hS hm (by omega) h2)))
theorem gz_i1 (k : Nat) : gz_i ((k : Int) - 15) + 1 = gz_i (((k + 1 : Nat) : Int) - 15) := by
  have e : (1 : Int32) = gz_i 1 := rfl
  rw [e, gz_ia]
  exact gz_iq (by omega)
theorem gx_f33 {J15 J24 : Int32 → Int32 → Int32 → Int32 → (Nat → Int32) → (Nat → Int64) → (Nat → Int64) → Prop} {L : Int} {t : Nat} {Cc : Int → Nat} (hb : gz_bs β a p q b s c) (hH : gz_H a p q b s c) (hB : gz_Bd a p q b s c)
    {i j : Nat} (hi : i < 31) (hj : j < 31) (hS : gz_Se 243 Cc L t)
    (h : ∀ L' t' ρ', gz_Se 243 (fun l => Cc l + gz_S 31 (fun k => gz_pt (gz_Sp (gz_B a p q b s c)) l ((i : Int) - 15) ((j : Int) - 15) ((k : Int) - 15))) L' t' → J24 (gz_i (((j + 1 : Nat) : Int) - 15)) (nI n) (gz_i L') (nI t') C β ρ') :
    ∃ m, wX_findShortest_33 post J15 J24 (gz_i ((i : Int) - 15)) (gz_i ((j : Int) - 15)) m (-15) (nI n) (gz_i L) (nI t) C β ρ := by
  refine loop_0 (fun m k (r : Int × Nat × (Nat → Int64)) => wX_findShortest_33 post J15 J24 (gz_i ((i : Int) - 15)) (gz_i ((j : Int) - 15)) m (gz_i ((k : Int) - 15)) (nI n) (gz_i r.1) (nI r.2.1) C β r.2.2)
    (fun k r => gz_Se 243 (fun l => Cc l + gz_S k (fun k => gz_pt (gz_Sp (gz_B a p q b s c)) l ((i : Int) - 15) ((j : Int) - 15) ((k : Int) - 15))) r.1 r.2.1) 31 (L, t, ρ) (gz_SeC hS (fun l _ => rfl)) ?_ ?_
  · intro m r hr
    exact br_t (by decide) (nm_r (gz_i1 j) (h r.1 r.2.1 r.2.2 hr))
  · intro m k r hk hr K
    refine gz_bt 15 ((k : Int) - 15) (fun hlt => absurd hlt (by omega)) (fun _ => ?_)
    refine gx_cmp hb hH hB (by omega) (by omega) (by omega) hr ?_
    intro L' t' ρ' hS'
    exact nm_r (gz_i1 k) (K (L', t', ρ') (gz_SeC hS' (fun l _ => Nat.add_assoc _ _ _)))
theorem gx_f24 {J15 : Int32 → Int32 → Int32 → Int32 → (Nat → Int32) → (Nat → Int64) → (Nat → Int64) → Prop} {L : Int} {t : Nat} {Cc : Int → Nat} (hb : gz_bs β a p q b s c) (hH : gz_H a p q b s c) (hB : gz_Bd a p q b s c)
    {i : Nat} (hi : i < 31) (hS : gz_Se 243 Cc L t)
    (h : ∀ L' t' ρ', gz_Se 243 (fun l => Cc l + gz_S 31 (fun j => gz_S 31 (fun k => gz_pt (gz_Sp (gz_B a p q b s c)) l ((i : Int) - 15) ((j : Int) - 15) ((k : Int) - 15)))) L' t' → J15 (gz_i (((i + 1 : Nat) : Int) - 15)) (nI n) (gz_i L') (nI t') C β ρ') :
    ∃ m, wX_findShortest_24 post J15 (gz_i ((i : Int) - 15)) m (-15) (nI n) (gz_i L) (nI t) C β ρ := by
  refine loop_0 (fun m j (r : Int × Nat × (Nat → Int64)) => wX_findShortest_24 post J15 (gz_i ((i : Int) - 15)) m (gz_i ((j : Int) - 15)) (nI n) (gz_i r.1) (nI r.2.1) C β r.2.2)
    (fun j r => gz_Se 243 (fun l => Cc l + gz_S j (fun j => gz_S 31 (fun k => gz_pt (gz_Sp (gz_B a p q b s c)) l ((i : Int) - 15) ((j : Int) - 15) ((k : Int) - 15)))) r.1 r.2.1) 31 (L, t, ρ) (gz_SeC hS (fun l _ => rfl)) ?_ ?_
  · intro m r hr
    exact br_t (by decide) (nm_r (gz_i1 i) (h r.1 r.2.1 r.2.2 hr))
  · intro m j r hj hr K
    refine gz_bt 15 ((j : Int) - 15) (fun hlt => absurd hlt (by omega)) (fun _ => ?_)
    refine gx_f33 hb hH hB hi hj hr ?_
    intro L' t' ρ' hS'
    exact K (L', t', ρ') (gz_SeC hS' (fun l _ => Nat.add_assoc _ _ _))
theorem gz_Sle {m M : Nat} {f : Nat → Nat} (h : ∀ i, i < m → f i ≤ M) : gz_S m f ≤ m * M := by
  induction m with
  | zero => exact Nat.zero_le _
  | succ m ih =>
    have h1 := ih (fun i hi => h i (by omega))
    have h2 := h m (by omega)
    show gz_S m f + f m ≤ (m + 1) * M
    rw [Nat.add_mul, Nat.one_mul]
    omega
theorem gz_CXb {T : gz_V → Prop} {l : Int} : gz_CX T l ≤ 29791 := by
  have h1 : ∀ x y z, gz_pt T l x y z ≤ 1 := by
    intro x y z
    by_cases h : T (x, y, z) ∧ gz_sq x y z = l
    · exact Nat.le_of_eq (gz_ind1 h)
    · have e : gz_pt T l x y z = 0 := gz_ind0 h
      omega
  exact gz_Sle (M := 961) (fun i _ => gz_Sle (M := 31) (fun j _ => gz_Sle (M := 1) (fun k _ => h1 _ _ _)))
theorem gx_fs (lsq lsp : Int32) (hb : gz_bs β a p q b s c) (hH : gz_H a p q b s c) (hB : gz_Bd a p q b s c)
    (h0 : ∀ L ρ', gz_Se 243 (gz_CX (gz_Sp (gz_B a p q b s c))) L 0 → post (nI n, -1000000, -1000000, C, β, ρ'))
    (h1 : ∀ L t ρ', t ≠ 0 → gz_Se 243 (gz_CX (gz_Sp (gz_B a p q b s c))) L t → post (nI n, gz_i L, nI t, C, β, ρ')) :
    wpX_findShortest post (nI n, lsq, lsp, C, β, ρ) := by
  refine loop_0 (fun m i (r : Int × Nat × (Nat → Int64)) => wX_findShortest_15 post m (gz_i ((i : Int) - 15)) (nI n) (gz_i r.1) (nI r.2.1) C β r.2.2)
    (fun i r => gz_Se 243 (fun l => gz_S i (fun i => gz_S 31 (fun j => gz_S 31 (fun k => gz_pt (gz_Sp (gz_B a p q b s c)) l ((i : Int) - 15) ((j : Int) - 15) ((k : Int) - 15))))) r.1 r.2.1) 31 (243, 0, ρ) (gz_Se0 (by decide)) ?_ ?_
  · intro m r hr
    have hr2 : gz_Se 243 (gz_CX (gz_Sp (gz_B a p q b s c))) r.1 r.2.1 := hr
    have tb : r.2.1 ≤ 29791 := by
      rw [hr2.2.2.1]
      exact gz_CXb
    refine br_t (by decide) (pk_eq r.2.1 0 (fun e => ?_) (fun e => h1 _ _ _ e hr2))
    rw [e] at hr2
    exact h0 _ _ hr2
  · intro m i r hi hr K
    refine gz_bt 15 ((i : Int) - 15) (fun hlt => absurd hlt (by omega)) (fun _ => ?_)
    refine gx_f24 hb hH hB hi hr ?_
    intro L' t' ρ' hS'
    exact K (L', t', ρ') hS'
end
