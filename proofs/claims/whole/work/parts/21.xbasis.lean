/-! X: the basis of the rows -/
def gz_bs (β : Nat → Int64) (a p q b s c : Int) : Prop :=
  β 0 = gz_l a ∧ β 1 = gz_l p ∧ β 2 = gz_l q ∧ β 3 = gz_l 0 ∧ β 4 = gz_l b ∧ β 5 = gz_l s ∧ β 6 = gz_l 0 ∧ β 7 = gz_l 0 ∧ β 8 = gz_l c
def gz_rs (ρ : Nat → Int64) (x y z : Int) : Prop := ρ 0 = gz_l x ∧ ρ 1 = gz_l y ∧ ρ 2 = gz_l z
theorem gx_bi {c j : Nat} {β ρ : Nat → Int64} (h : 3 * c + c ≤ j ∧ j < 3 * c + 3) : gx_b c β ρ j = ρ (j - 3 * c) := if_pos h
theorem gx_bo {c j : Nat} {β ρ : Nat → Int64} (h : ¬ (3 * c + c ≤ j ∧ j < 3 * c + 3)) : gx_b c β ρ j = β j := if_neg h
theorem gx_ri {c j : Nat} {t : Int64} {β ρ : Nat → Int64} (h : c ≤ j ∧ j < 3) : gx_r c t β ρ j = β (3 * c + j) - t * ρ j := if_pos h
theorem gx_ro {c j : Nat} {t : Int64} {β ρ : Nat → Int64} (h : ¬ (c ≤ j ∧ j < 3)) : gx_r c t β ρ j = ρ j := if_neg h
theorem gx_s {x y : Int64} {p t z : Int} (hx : x = gz_l p) (hy : y = gz_l z) : x - gz_l t * y = gz_l (p - t * z) := by
  rw [hx, hy, gz_lm, gz_ls]
def gx_I0 (T : gz_V → Prop) (b s c : Int) (β ρ : Nat → Int64) (B R : Int) : Prop :=
  ∃ p q y z, gz_bs β B p q b s c ∧ gz_rs ρ R y z ∧ gz_P0 T b s c B p q R y z
def gx_I1 (T : gz_V → Prop) (a p q c : Int) (β ρ : Nat → Int64) (B R : Int) : Prop :=
  ∃ s z, gz_bs β a p q B s c ∧ gz_rs ρ 0 R z ∧ gz_P1 T a p q c B s R z
def gx_I2 (T : gz_V → Prop) (a p q b s : Int) (β ρ : Nat → Int64) (B R : Int) : Prop :=
  gz_bs β a p q b s B ∧ gz_rs ρ 0 0 R ∧ gz_P2 T a p q b s B R
theorem gx_c0 {post : SX → Prop} {rc lsq lsp : Int32} {C : Nat → Int32} {β ρ : Nat → Int64} {T : gz_V → Prop} {b s c a p q x y z : Int}
    (hb : gz_bs β a p q b s c) (hr : gz_rs ρ x y z) (hP : gz_P0 T b s c a p q x y z)
    (h : ∀ β' ρ' a p q y z, gz_bs β' a p q b s c → gz_rs ρ' 0 y z → gz_P0 T b s c a p q 0 y z → post (rc, lsq, lsp, C, β', ρ')) :
    wpX_clearPlace post (rc, lsq, lsp, C, β, ρ) 0 := by
  refine gx_clr 0 (by decide) (gx_I0 T b s c) ?_ ?_ (fun β ρ B ⟨p, q, y, z, h1, h2, h3⟩ => h β ρ B p q y z h1 h2 h3) ⟨p, q, y, z, hb, hr, hP⟩
  · intro β ρ B R ⟨p, q, y, z, h1, h2, h3⟩
    refine ⟨h1.1, h2.1, ?_, ?_⟩
    · have := h3.2.1
      omega
    · have := h3.2.2.1
      omega
  · intro β ρ B R ⟨p, q, y, z, ⟨b0, b1, b2, b3, b4, b5, b6, b7, b8⟩, ⟨r0, r1, r2⟩, h3⟩ hR
    refine ⟨y, z, p - B.tdiv R * y, q - B.tdiv R * z, ⟨?_, ?_, ?_, ?_, ?_, ?_, ?_, ?_, ?_⟩, ⟨?_, ?_, ?_⟩, gz_P0s h3 hR⟩
    · exact (gx_bi (by decide)).trans r0
    · exact (gx_bi (by decide)).trans r1
    · exact (gx_bi (by decide)).trans r2
    · exact (gx_bo (by decide)).trans b3
    · exact (gx_bo (by decide)).trans b4
    · exact (gx_bo (by decide)).trans b5
    · exact (gx_bo (by decide)).trans b6
    · exact (gx_bo (by decide)).trans b7
    · exact (gx_bo (by decide)).trans b8
    · exact (gx_ri (by decide)).trans (gx_s b0 r0)
    · exact (gx_ri (by decide)).trans (gx_s b1 r1)
    · exact (gx_ri (by decide)).trans (gx_s b2 r2)
theorem gx_c1 {post : SX → Prop} {rc lsq lsp : Int32} {C : Nat → Int32} {β ρ : Nat → Int64} {T : gz_V → Prop} {b s c a p q y z : Int}
    (hb : gz_bs β a p q b s c) (hr : gz_rs ρ 0 y z) (hP : gz_P1 T a p q c b s y z)
    (h : ∀ β' ρ' b s z, gz_bs β' a p q b s c → gz_rs ρ' 0 0 z → gz_P1 T a p q c b s 0 z → post (rc, lsq, lsp, C, β', ρ')) :
    wpX_clearPlace post (rc, lsq, lsp, C, β, ρ) 1 := by
  refine gx_clr 1 (by decide) (gx_I1 T a p q c) ?_ ?_ (fun β ρ B ⟨s, z, h1, h2, h3⟩ => h β ρ B s z h1 h2 h3) ⟨s, z, hb, hr, hP⟩
  · intro β ρ B R ⟨s, z, h1, h2, h3⟩
    refine ⟨h1.2.2.2.2.1, h2.2.1, ?_, ?_⟩
    · have := h3.2.1
      omega
    · have := h3.2.2.1
      omega
  · intro β ρ B R ⟨s, z, ⟨b0, b1, b2, b3, b4, b5, b6, b7, b8⟩, ⟨r0, r1, r2⟩, h3⟩ hR
    refine ⟨z, s - B.tdiv R * z, ⟨?_, ?_, ?_, ?_, ?_, ?_, ?_, ?_, ?_⟩, ⟨?_, ?_, ?_⟩, gz_P1s h3 hR⟩
    · exact (gx_bo (by decide)).trans b0
    · exact (gx_bo (by decide)).trans b1
    · exact (gx_bo (by decide)).trans b2
    · exact (gx_bo (by decide)).trans b3
    · exact (gx_bi (by decide)).trans r1
    · exact (gx_bi (by decide)).trans r2
    · exact (gx_bo (by decide)).trans b6
    · exact (gx_bo (by decide)).trans b7
    · exact (gx_bo (by decide)).trans b8
    · exact (gx_ro (by decide)).trans r0
    · exact (gx_ri (by decide)).trans (gx_s b4 r1)
    · exact (gx_ri (by decide)).trans (gx_s b5 r2)
theorem gx_c2 {post : SX → Prop} {rc lsq lsp : Int32} {C : Nat → Int32} {β ρ : Nat → Int64} {T : gz_V → Prop} {b s c a p q z : Int}
    (hb : gz_bs β a p q b s c) (hr : gz_rs ρ 0 0 z) (hP : gz_P2 T a p q b s c z)
    (h : ∀ β' ρ' c, gz_bs β' a p q b s c → gz_P2 T a p q b s c 0 → post (rc, lsq, lsp, C, β', ρ')) :
    wpX_clearPlace post (rc, lsq, lsp, C, β, ρ) 2 := by
  refine gx_clr 2 (by decide) (gx_I2 T a p q b s) ?_ ?_ (fun β ρ B ⟨h1, h2, h3⟩ => h β ρ B h1 h3) ⟨hb, hr, hP⟩
  · intro β ρ B R ⟨h1, h2, h3⟩
    refine ⟨h1.2.2.2.2.2.2.2.2, h2.2.2, ?_, ?_⟩
    · have := h3.2.1
      omega
    · have := h3.2.2
      omega
  · intro β ρ B R ⟨⟨b0, b1, b2, b3, b4, b5, b6, b7, b8⟩, ⟨r0, r1, r2⟩, h3⟩ hR
    refine ⟨⟨?_, ?_, ?_, ?_, ?_, ?_, ?_, ?_, ?_⟩, ⟨?_, ?_, ?_⟩, gz_P2s h3 hR⟩
    · exact (gx_bo (by decide)).trans b0
    · exact (gx_bo (by decide)).trans b1
    · exact (gx_bo (by decide)).trans b2
    · exact (gx_bo (by decide)).trans b3
    · exact (gx_bo (by decide)).trans b4
    · exact (gx_bo (by decide)).trans b5
    · exact (gx_bo (by decide)).trans b6
    · exact (gx_bo (by decide)).trans b7
    · exact (gx_bi (by decide)).trans r2
    · exact (gx_ro (by decide)).trans r0
    · exact (gx_ro (by decide)).trans r1
    · exact (gx_ri (by decide)).trans (gx_s b8 r2)
/-- the rows as both sides hold them: n rows, the numbers w -/
def gz_cw (n : Nat) (w : Nat → Int) (C : Nat → Int32) : Prop := ∀ j, j < 3 * n → C j = gz_i (w j)
def gz_sw (n : Nat) (w : Nat → Int) : Prop := n ≤ 4 ∧ ∀ j, j < 3 * n → (w j).natAbs ≤ 9
theorem gx_take {post : SX → Prop} {rc lsq lsp : Int32} {C : Nat → Int32} {β ρ : Nat → Int64} {G : gz_V → Prop} {b s c a p q : Int} {n r : Nat} {w : Nat → Int}
    (hw : gz_sw n w) (hC : gz_cw n w C) (hr : r < n) (hG : gz_Sm G) (hs : ∀ v, gz_Sp (gz_B a p q b s c) v ↔ gz_Sp G v) (hH : gz_H a p q b s c) (hb : gz_bs β a p q b s c)
    (h : ∀ β' ρ' a p q b s c, gz_bs β' a p q b s c → gz_P3 (gz_Sp (gz_pl G (gz_ro w r))) a p q b s c → post (rc, lsq, lsp, C, β', ρ')) :
    wpX_takeIn post (rc, lsq, lsp, C, β, ρ) (nI r) := by
  have hn := hw.1
  refine loop_0 (fun n i (s : Nat → Int64) => wX_takeIn_2 post (nI r) rc lsq lsp n (nI i) C β s) (fun i s => ∀ j, j < i → s j = gz_l (w (3 * r + j))) 3 ρ lt_0 ?_ ?_
  · intro m t ht
    refine br_t (by decide) ⟨4, ?_⟩
    have w0 := hw.2 (3 * r + 0) (by omega)
    have w1 := hw.2 (3 * r + 1) (by omega)
    have w2 := hw.2 (3 * r + 2) (by omega)
    have bd := gz_bd hG hs hH
    have h0 : gz_P0 (gz_Sp (gz_pl G (gz_ro w r))) b s c a p q (w (3 * r + 0)) (w (3 * r + 1)) (w (3 * r + 2)) := gz_P0i hG hs hH w0 w1 w2
    refine br_f (by decide) (gx_c0 hb ⟨ht 0 (by decide), ht 1 (by decide), ht 2 (by decide)⟩ h0 ?_)
    intro β1 ρ1 a1 p1 q1 y1 z1 hb1 hr1 hP1
    refine nm_r (show (0 : Int32) + 1 = 1 by decide) (br_f (by decide) (gx_c1 hb1 hr1 (gz_P1i hP1 (by have := hH.2.2.1; omega) bd.2.2.2.2.2 hH.1.2) ?_))
    intro β2 ρ2 b2 s2 z2 hb2 hr2 hP2
    refine nm_r (show (1 : Int32) + 1 = 2 by decide) (br_f (by decide) (gx_c2 hb2 hr2 (gz_P2i hP2 (by have := hH.2.2.2.1; omega)) ?_))
    intro β3 ρ3 c3 hb3 hP3
    exact nm_r (show (2 : Int32) + 1 = 3 by decide) (br_t (by decide) (h _ _ _ _ _ _ _ _ hb3 (gz_P3i hP1 hP2 hP3)))
  · intro m i t hi ht k
    have e1 : (3 * nI r + nI i).toNatClampNeg = 3 * r + i := gx_ad3 (by omega)
    have e2 : (nI i).toNatClampNeg = i := gx_cl (by omega)
    refine br_f (nI_ge (b := 3) hi (by decide)) ⟨gx_vi3 (by omega) (by omega), vp_in_nI hi (by omega), nm_e (nm_r (nI_1 i) (k _ ?_))⟩
    rw [e1, e2, hC (3 * r + i) (by omega)]
    have hwb := hw.2 (3 * r + i) (by omega)
    rw [gz_il (a := w (3 * r + i))]
    intro j hj
    by_cases hji : j = i
    · subst hji
      exact pk_uLs
    · rw [pk_uLn hji]
      exact ht j (by omega)
