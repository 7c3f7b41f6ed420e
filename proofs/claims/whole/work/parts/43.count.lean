/-! count -/
noncomputable def gz_f (a p q b s c : Int) (x y z : Nat) : Nat := gz_ind (gz_Sp (gz_B a p q b s c) ((x : Int), (y : Int), (z : Int)))
theorem gz_nb {k : Nat} (h : k ≤ 5000) : ((k : Int)).natAbs ≤ 5000 := by omega
section
variable {post : Int32 → SX → Prop} {lsq lsp : Int32} {C : Nat → Int32} {β : Nat → Int64} {n N : Nat} {a p q b s c : Int}
theorem gx_ct38 {J21 J29 : Int32 → Int32 → Int32 → Int32 → Int32 → (Nat → Int32) → (Nat → Int64) → (Nat → Int64) → Prop} (hb : gz_bs β a p q b s c) (hH : gz_H a p q b s c) (hB : gz_Bd a p q b s c) (hN : N ≤ 8) {x y : Nat} (hx : x < N) (hy : y < N)
    (t0 : Nat) (ρ : Nat → Int64) (h : ∀ ρ', J29 (nI (t0 + gz_S N (gz_f a p q b s c x y))) (nI (y + 1)) (nI n) lsq lsp C β ρ') :
    ∃ m, wX_count_38 post J21 J29 (nI N) (nI x) (nI y) m (nI t0) 0 (nI n) lsq lsp C β ρ := by
  refine loop_0 (fun m z (t : Nat × (Nat → Int64)) => wX_count_38 post J21 J29 (nI N) (nI x) (nI y) m (nI t.1) (nI z) (nI n) lsq lsp C β t.2) (fun z t => t.1 = t0 + gz_S z (gz_f a p q b s c x y)) N (t0, ρ) rfl ?_ ?_
  · intro m t ht
    refine br_t (nI_le (Nat.le_refl N) (by omega)) (nm_r (nI_1 y) ?_)
    rw [ht]
    exact h _
  · intro m z t hz ht K
    refine br_f (nI_ge hz (by omega)) ?_
    rw [← gz_iN x, ← gz_iN y, ← gz_iN z]
    refine gx_con hb hH hB (by omega) (by omega) (by omega) (fun hm ρ' => ?_) (fun hm ρ' => ?_)
    · have e : gz_f a p q b s c x y z = 1 := gz_ind1 hm
      refine br_f (by decide) (nm_r (nI_1 t.1) (nm_r (e' := nI (z + 1)) (by rw [gz_iN]; exact nI_1 z) ?_))
      rw [gz_iN x, gz_iN y]
      refine K (t.1 + 1, ρ') ?_
      show t.1 + 1 = t0 + (gz_S z (gz_f a p q b s c x y) + gz_f a p q b s c x y z)
      omega
    · have e : gz_f a p q b s c x y z = 0 := gz_ind0 hm
      refine br_t rfl (nm_r (e' := nI (z + 1)) (by rw [gz_iN]; exact nI_1 z) ?_)
      rw [gz_iN x, gz_iN y]
      refine K (t.1, ρ') ?_
      show t.1 = t0 + (gz_S z (gz_f a p q b s c x y) + gz_f a p q b s c x y z)
      omega
theorem gx_ct29 {J21 : Int32 → Int32 → Int32 → Int32 → Int32 → (Nat → Int32) → (Nat → Int64) → (Nat → Int64) → Prop} (hb : gz_bs β a p q b s c) (hH : gz_H a p q b s c) (hB : gz_Bd a p q b s c) (hN : N ≤ 8) {x : Nat} (hx : x < N)
    (t0 : Nat) (ρ : Nat → Int64) (h : ∀ ρ', J21 (nI (t0 + gz_S N (fun y => gz_S N (gz_f a p q b s c x y)))) (nI (x + 1)) (nI n) lsq lsp C β ρ') :
    ∃ m, wX_count_29 post J21 (nI N) (nI x) m (nI t0) 0 (nI n) lsq lsp C β ρ := by
  refine loop_0 (fun m y (t : Nat × (Nat → Int64)) => wX_count_29 post J21 (nI N) (nI x) m (nI t.1) (nI y) (nI n) lsq lsp C β t.2) (fun y t => t.1 = t0 + gz_S y (fun y => gz_S N (gz_f a p q b s c x y))) N (t0, ρ) rfl ?_ ?_
  · intro m t ht
    refine br_t (nI_le (Nat.le_refl N) (by omega)) (nm_r (nI_1 x) ?_)
    rw [ht]
    exact h _
  · intro m y t hy ht K
    refine br_f (nI_ge hy (by omega)) (gx_ct38 hb hH hB hN hx hy t.1 t.2 ?_)
    intro ρ'
    refine K (t.1 + gz_S N (gz_f a p q b s c x y), ρ') ?_
    show t.1 + gz_S N (gz_f a p q b s c x y) = t0 + (gz_S y (fun y => gz_S N (gz_f a p q b s c x y)) + gz_S N (gz_f a p q b s c x y))
    omega
theorem gx_ct21 (hb : gz_bs β a p q b s c) (hH : gz_H a p q b s c) (hB : gz_Bd a p q b s c) (hN : N ≤ 8) (ρ : Nat → Int64)
    (h : ∀ ρ', post (nI (gz_S N (fun x => gz_S N (fun y => gz_S N (gz_f a p q b s c x y))))) (nI n, lsq, lsp, C, β, ρ')) :
    ∃ m, wX_count_21 post (nI N) m 0 0 (nI n) lsq lsp C β ρ := by
  refine loop_0 (fun m x (t : Nat × (Nat → Int64)) => wX_count_21 post (nI N) m (nI t.1) (nI x) (nI n) lsq lsp C β t.2) (fun x t => t.1 = gz_S x (fun x => gz_S N (fun y => gz_S N (gz_f a p q b s c x y)))) N (0, ρ) rfl ?_ ?_
  · intro m t ht
    refine br_t (nI_le (Nat.le_refl N) (by omega)) ?_
    rw [ht]
    exact h _
  · intro m x t hx ht K
    refine br_f (nI_ge hx (by omega)) (gx_ct29 hb hH hB hN hx t.1 t.2 ?_)
    intro ρ'
    refine K (t.1 + gz_S N (fun y => gz_S N (gz_f a p q b s c x y)), ρ') ?_
    show t.1 + gz_S N (fun y => gz_S N (gz_f a p q b s c x y)) = gz_S x (fun x => gz_S N (fun y => gz_S N (gz_f a p q b s c x y))) + gz_S N (fun y => gz_S N (gz_f a p q b s c x y))
    omega
end
theorem gy_ct {post : Int32 → SY → Prop} {ff fl : Int32} {D : Nat → Int32} {n N : Nat} {w : Nat → Int} {a p q b s c : Int} (hw : gz_sw n w) (hD : gz_cw n w D)
    (hs : ∀ v, gz_Sp (gz_B a p q b s c) v ↔ gz_Sp (gz_R w (-1) n) v) (hN : N ≤ 8)
    (h : ∀ D', gz_cw n w D' → post (nI (gz_S N (fun x => gz_S N (fun y => gz_S N (gz_f a p q b s c x y))))) (nI n, ff, fl, D')) : ∃ m, wY_count_16 post (nI N) m 0 0 (nI n) ff fl D := by
  have hNN : N * N * N ≤ 512 := Nat.mul_le_mul (Nat.mul_le_mul hN hN) hN
  have e3 : nI N * nI N * nI N = nI (N * N * N) := by rw [pk_mul, pk_mul]
  refine loop_0 (fun m i (t : Nat × (Nat → Int32)) => wY_count_16 post (nI N) m (nI t.1) (nI i) (nI n) ff fl t.2)
    (fun i t => t.1 = gz_S i (fun i => gz_f a p q b s c (i % N) (i / N % N) (i / N / N)) ∧ gz_cw n w t.2) (N * N * N) (0, D) ⟨rfl, hD⟩ ?_ ?_
  · intro m t ⟨ht, hD'⟩
    refine br_t (by rw [e3]; exact nI_le (Nat.le_refl _) (by omega)) ?_
    rw [ht, gz_box N (gz_f a p q b s c)]
    exact h _ hD'
  · intro m i t hi ⟨ht, hD'⟩ K
    have h0 : 0 < N := by
      by_cases e : N = 0
      · subst e; omega
      · omega
    have hne : ¬ nI N = 0 := nI_ne0 h0 (by omega)
    have d1 : i / N ≤ i := Nat.div_le_self _ _
    have d2 : i / N / N ≤ i / N := Nat.div_le_self _ _
    have d3 : i % N ≤ i := Nat.mod_le _ _
    have d4 : i / N % N ≤ i / N := Nat.mod_le _ _
    have q1 : nI i / nI N = nI (i / N) := pk_div (by omega) h0 (by omega)
    have q2 : nI i - nI i / nI N * nI N = nI (i % N) := pk_rem (by omega) h0 (by omega)
    have q3 : nI (i / N) - nI (i / N) / nI N * nI N = nI (i / N % N) := pk_rem (by omega) h0 (by omega)
    have q4 : nI (i / N) / nI N = nI (i / N / N) := pk_div (by omega) h0 (by omega)
    refine br_f (by rw [e3]; exact nI_ge hi (by omega)) ⟨hne, hne, hne, hne, hne, ?_⟩
    rw [q2, q1, q3, q4, ← gz_iN (i % N), ← gz_iN (i / N % N), ← gz_iN (i / N / N)]
    refine gy_has (cols := 3) hw hD' (gz_nb (by omega)) (gz_nb (by omega)) (gz_nb (by omega)) (by decide) (by decide) (fun hm D2 hD2 => ?_) (fun hm D2 hD2 => ?_)
    · have e : gz_f a p q b s c (i % N) (i / N % N) (i / N / N) = 1 := gz_ind1 ((gz_hm hs).1 hm)
      refine br_f (by decide) (nm_r (nI_1 t.1) (nm_r (nI_1 i) (K (t.1 + 1, D2) ⟨?_, hD2⟩)))
      show t.1 + 1 = gz_S i (fun i => gz_f a p q b s c (i % N) (i / N % N) (i / N / N)) + gz_f a p q b s c (i % N) (i / N % N) (i / N / N)
      omega
    · have e : gz_f a p q b s c (i % N) (i / N % N) (i / N / N) = 0 := gz_ind0 (fun hx => hm ((gz_hm hs).2 hx))
      refine br_t rfl (nm_r (nI_1 i) (K (t.1, D2) ⟨?_, hD2⟩))
      show t.1 = gz_S i (fun i => gz_f a p q b s c (i % N) (i / N % N) (i / N / N)) + gz_f a p q b s c (i % N) (i / N % N) (i / N / N)
      omega
theorem i_vc_count {k : Nat} {u : SX} {v : SY} (I : i_Rel k u v) (hk : k + 4 ≤ 2048) (v1 : Int32) : wpX_count (fun r u' => wpY_count (fun r' v' => r' = r ∧ i_Rel (k + 4) u' v') v v1) u v1 := by
  obtain ⟨rc, lsq, lsp, C, β, ρ⟩ := u
  obtain ⟨fc, ff, fl, D⟩ := v
  obtain ⟨n, w, hw, h1, hC, h2, hD⟩ := I
  dsimp only at h1 hC h2 hD
  subst h1 h2
  rcases gz_rn v1 (n := 9) (by omega) with ⟨N, hN, rfl⟩ | h | ⟨h1, h2⟩
  · have p0 : ¬ nI N < 0 := nI_pos (by omega)
    have p8 : nI N ≤ 8 := nI_le (b := 8) (by omega) (by decide)
    refine br_f p0 (br_t p8 (gx_span hw hC ?_))
    intro β' ρ' a p q b s c hb hs hH
    have hB := gz_bB hw hs hH
    refine gx_ct21 hb hH hB (by omega) ρ' ?_
    intro ρ2
    exact br_f p0 (br_t p8 (gy_ct hw hD hs (by omega) (fun D' hD' => ⟨rfl, gz_mk hw hC hD'⟩)))
  · exact br_t h (br_t h ⟨rfl, gz_mk hw hC hD⟩)
  · have x := gz_gt (b := 8) h2 (by decide) (by decide)
    exact br_f h1 (br_f x.2.1 (br_f h1 (br_f x.2.1 ⟨rfl, gz_mk hw hC hD⟩)))
