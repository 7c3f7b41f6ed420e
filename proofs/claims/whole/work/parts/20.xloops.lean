/-! X: the basis and the rest; loops over the places -/
theorem gx_3c (c : Nat) : (3 : Int32) * nI c = nI (3 * c) := pk_mul 3 c
theorem gx_ad {a b : Nat} (h : a + b < 2147483648) : (nI a + nI b).toNatClampNeg = a + b := by
  rw [nI_add]
  exact nI_clamp h
theorem gx_vi {a b N : Nat} (h : a + b < N) (hN : N < 2147483648) : vp_in (nI a + nI b) N := by
  rw [nI_add]
  exact vp_in_nI h hN
theorem gx_ad3 {a b : Nat} (h : 3 * a + b < 2147483648) : (3 * nI a + nI b).toNatClampNeg = 3 * a + b := by
  rw [gx_3c]
  exact gx_ad h
theorem gx_vi3 {a b N : Nat} (h : 3 * a + b < N) (hN : N < 2147483648) : vp_in (3 * nI a + nI b) N := by
  rw [gx_3c]
  exact gx_vi h hN
theorem gx_cl {a : Nat} (h : a < 2147483648) : (nI a).toNatClampNeg = a := nI_clamp h
def gx_b (c : Nat) (β ρ : Nat → Int64) : Nat → Int64 := fun j => if 3 * c + c ≤ j ∧ j < 3 * c + 3 then ρ (j - 3 * c) else β j
def gx_r (c : Nat) (t : Int64) (β ρ : Nat → Int64) : Nat → Int64 := fun j => if c ≤ j ∧ j < 3 then β (3 * c + j) - t * ρ j else ρ j
theorem gx_cp {post : SX → Prop} {J : Int32 → (Nat → Int32) → (Nat → Int64) → (Nat → Int64) → Prop} {rc lsq lsp x3 : Int32} {t : Int64} {C : Nat → Int32} {β ρ : Nat → Int64}
    (c : Nat) (hc : c < 3) (h : J (x3 + 1) C (gx_b c β ρ) (gx_r c t β ρ)) :
    ∃ n, wX_clearPlace_44 post J (nI c) (nI (3 * c)) x3 t rc lsq lsp n (nI c) C β ρ := by
  refine pk_loop (σ := (Nat → Int64) × (Nat → Int64)) (fun n i s => wX_clearPlace_44 post J (nI c) (nI (3 * c)) x3 t rc lsq lsp n (nI i) C s.1 s.2)
    (fun i s => c ≤ i ∧ (∀ j, s.1 j = if 3 * c + c ≤ j ∧ j < 3 * c + i then ρ (j - 3 * c) else β j) ∧ (∀ j, s.2 j = if c ≤ j ∧ j < i then β (3 * c + j) - t * ρ j else ρ j))
    3 c (β, ρ) (by omega) ⟨Nat.le_refl c, fun j => (if_neg (by omega)).symm, fun j => (if_neg (by omega)).symm⟩ ?_ ?_
  · intro n s ⟨_, h1, h2⟩
    have e1 : s.1 = gx_b c β ρ := funext h1
    have e2 : s.2 = gx_r c t β ρ := funext h2
    refine br_t (by decide) (nm_e ?_)
    rw [e1, e2]
    exact h
  · intro n i s hi ⟨h0, h1, h2⟩ k
    have e1 : (nI (3 * c) + nI i).toNatClampNeg = 3 * c + i := gx_ad (by omega)
    have e2 : (nI i).toNatClampNeg = i := gx_cl (by omega)
    have v1 : vp_in (nI (3 * c) + nI i) 9 := gx_vi (by omega) (by omega)
    have v2 : vp_in (nI i) 3 := vp_in_nI hi (by omega)
    refine br_f (nI_ge (b := 3) hi (by decide)) ⟨v1, v2, nm_e ⟨v2, v1, nm_e ⟨v2, nm_e (nm_r (nI_1 i) ?_)⟩⟩⟩
    refine k (vp_updL s.1 (nI (3 * c) + nI i).toNatClampNeg (s.2 (nI i).toNatClampNeg), vp_updL s.2 (nI i).toNatClampNeg (s.1 (nI (3 * c) + nI i).toNatClampNeg - t * s.2 (nI i).toNatClampNeg)) ⟨by omega, fun j => ?_, fun j => ?_⟩
    · dsimp only
      rw [e1, e2]
      by_cases hj : j = 3 * c + i
      · subst hj
        rw [pk_uLs, if_pos (by omega), h2, if_neg (by omega)]
        congr 1
        omega
      · rw [pk_uLn hj, h1]
        by_cases hk : 3 * c + c ≤ j ∧ j < 3 * c + i
        · rw [if_pos hk, if_pos (by omega)]
        · rw [if_neg hk, if_neg (by omega)]
    · dsimp only
      rw [e1, e2]
      by_cases hj : j = i
      · subst hj
        rw [pk_uLs, if_pos (by omega), h1, if_neg (by omega), h2, if_neg (by omega)]
      · rw [pk_uLn hj, h2]
        by_cases hk : c ≤ j ∧ j < i
        · rw [if_pos hk, if_pos (by omega)]
        · rw [if_neg hk, if_neg (by omega)]
theorem gx_clr {post : SX → Prop} {rc lsq lsp : Int32} {C : Nat → Int32} (c : Nat) (hc : c < 3) (Inv : (Nat → Int64) → (Nat → Int64) → Int → Int → Prop)
    (hv : ∀ β ρ B R, Inv β ρ B R → β (3 * c + c) = gz_l B ∧ ρ c = gz_l R ∧ B.natAbs < 4294967296 ∧ R.natAbs < 4294967296)
    (hst : ∀ β ρ B R, Inv β ρ B R → R ≠ 0 → Inv (gx_b c β ρ) (gx_r c (gz_l (B.tdiv R)) β ρ) R (B - B.tdiv R * R))
    (h : ∀ β ρ B, Inv β ρ B 0 → post (rc, lsq, lsp, C, β, ρ)) {β ρ : Nat → Int64} {B R : Int} (hI : Inv β ρ B R) :
    wpX_clearPlace post (rc, lsq, lsp, C, β, ρ) (nI c) := by
  refine nm_r (gx_3c c) ?_
  refine gz_euG (σ := (Nat → Int64) × (Nat → Int64) × Int × Int) (fun n i s => wX_clearPlace_6 post (nI c) (nI (3 * c)) rc lsq lsp n (nI i) C s.1 s.2.1)
    (fun s => s.2.2.1.natAbs) (fun s => s.2.2.2.natAbs) (fun s => Inv s.1 s.2.1 s.2.2.1 s.2.2.2) ?_ ?_ (β, ρ, B, R) hI (hv _ _ _ _ hI).2.2.1 (hv _ _ _ _ hI).2.2.2
  · intro n i s hi hs h0
    have hz : s.2.2.2 = 0 := by omega
    have hs2 : Inv s.1 s.2.1 s.2.2.1 0 := by rw [← hz]; exact hs
    have hp := h _ _ _ hs2
    refine pk_le 1000 i (fun _ => hp) (fun _ => ⟨vp_in_nI hc (by omega), br_t ?_ hp⟩)
    rw [gx_cl (a := c) (by omega), (hv _ _ _ _ hs2).2.1]
    rfl
  · intro n i s hi hs h0
    obtain ⟨f1, f2, f3, f4⟩ := hv _ _ _ _ hs
    have hR : s.2.2.2 ≠ 0 := by
      intro e
      rw [e] at h0
      exact h0 rfl
    refine ⟨(gx_b c s.1 s.2.1, gx_r c (gz_l (s.2.2.1.tdiv s.2.2.2)) s.1 s.2.1, s.2.2.2, s.2.2.1 - s.2.2.1.tdiv s.2.2.2 * s.2.2.2), hst _ _ _ _ hs hR, rfl, gz_e1 _ _, fun hW => ?_⟩
    have e1 : (nI (3 * c) + nI c).toNatClampNeg = 3 * c + c := gx_ad (by omega)
    have e2 : (nI c).toNatClampNeg = c := gx_cl (by omega)
    have hne : ¬ s.2.1 (nI c).toNatClampNeg = 0 := by
      rw [e2, f2]
      exact fun e => hR ((gz_lE (b := 0)).1 e)
    have hd : s.1 (nI (3 * c) + nI c).toNatClampNeg / s.2.1 (nI c).toNatClampNeg = gz_l (s.2.2.1.tdiv s.2.2.2) := by
      rw [e1, e2, f1, f2]
      exact gz_lD
    refine br_f (nI_ge (b := 1000) hi (by decide)) ⟨vp_in_nI hc (by omega), br_f hne ⟨gx_vi (by omega) (by omega), vp_in_nI hc (by omega), hne, nm_r hd ?_⟩⟩
    refine gx_cp c hc ?_
    rw [nI_1]
    exact hW
