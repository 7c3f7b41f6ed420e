/-! the relation; add, remove, set, swap, rows -/
def i_Rel (_ : Nat) (u : SX) (v : SY) : Prop := ∃ (n : Nat) (w : Nat → Int), gz_sw n w ∧ u.1 = nI n ∧ gz_cw n w u.2.2.2.1 ∧ v.1 = nI n ∧ gz_cw n w v.2.2.2
theorem i_up {k : Nat} {u : SX} {v : SY} (h : i_Rel k u v) : i_Rel (k + 4) u v := h
theorem i_vc0 : wpX_init (fun u => wpY_init (fun v => i_Rel 0 u v)) :=
  ⟨0, fun _ => 0, ⟨by decide, fun j hj => absurd hj (by omega)⟩, rfl, fun j hj => absurd hj (by omega), rfl, fun j hj => absurd hj (by omega)⟩
theorem gz_mk {k n : Nat} {w : Nat → Int} {lsq lsp ff fl : Int32} {C D : Nat → Int32} {β ρ : Nat → Int64} (hw : gz_sw n w) (hC : gz_cw n w C) (hD : gz_cw n w D) : i_Rel k (nI n, lsq, lsp, C, β, ρ) (nI n, ff, fl, D) :=
  ⟨n, w, hw, rfl, hC, rfl, hD⟩
theorem gx_wi {post : Int32 → Prop} {x N : Int} (hx : -2147483648 ≤ x ∧ x < 2147483648) (hN : 0 ≤ N ∧ N ≤ 5000) (h1 : x.natAbs ≤ N.natAbs → post 1) (h0 : ¬ x.natAbs ≤ N.natAbs → post 0) : wpX_within post (gz_i x) (gz_i N) :=
  gz_bt x (-N) (fun h => h0 (by omega)) (fun h => gz_bt N x (fun h2 => h0 (by omega)) (fun h2 => h1 (by omega))) rfl (gz_ing N)
theorem gx_aw {post : Int32 → Prop} {x y z N : Int} (hx : -2147483648 ≤ x ∧ x < 2147483648) (hy : -2147483648 ≤ y ∧ y < 2147483648) (hz : -2147483648 ≤ z ∧ z < 2147483648) (hN : 0 ≤ N ∧ N ≤ 5000)
    (h1 : x.natAbs ≤ N.natAbs → y.natAbs ≤ N.natAbs → z.natAbs ≤ N.natAbs → post 1) (h0 : ¬ (x.natAbs ≤ N.natAbs ∧ y.natAbs ≤ N.natAbs ∧ z.natAbs ≤ N.natAbs) → post 0) :
    wpX_allWithin post (gz_i x) (gz_i y) (gz_i z) (gz_i N) := by
  unfold wpX_allWithin
  refine gx_wi hx hN (fun a1 => br_f (by decide) ?_) (fun a1 => br_t rfl (h0 (fun h => a1 h.1)))
  refine gx_wi hy hN (fun a2 => br_f (by decide) ?_) (fun a2 => br_t rfl (h0 (fun h => a2 h.2.1)))
  exact gx_wi hz hN (fun a3 => br_f (by decide) (h1 a1 a2 a3)) (fun a3 => br_t rfl (h0 (fun h => a3 h.2.2)))
theorem gy_wi {post : Int32 → Prop} {v : SY} {x N : Int} (hx : -2147483648 ≤ x ∧ x < 2147483648) (hN : 0 ≤ N ∧ N ≤ 5000) (h1 : x.natAbs ≤ N.natAbs → post 1) (h0 : ¬ x.natAbs ≤ N.natAbs → post 0) : wpY_isSmall post v (gz_i x) (gz_i N) :=
  gz_bt x (-N) (fun h => h0 (by omega)) (fun h => gz_bt N x (fun h2 => h0 (by omega)) (fun h2 => h1 (by omega))) rfl (gz_ing N)
theorem gy_aw {post : Int32 → Prop} {v : SY} {x y z N : Int} (hx : -2147483648 ≤ x ∧ x < 2147483648) (hy : -2147483648 ≤ y ∧ y < 2147483648) (hz : -2147483648 ≤ z ∧ z < 2147483648) (hN : 0 ≤ N ∧ N ≤ 5000)
    (h1 : x.natAbs ≤ N.natAbs → y.natAbs ≤ N.natAbs → z.natAbs ≤ N.natAbs → post 1) (h0 : ¬ (x.natAbs ≤ N.natAbs ∧ y.natAbs ≤ N.natAbs ∧ z.natAbs ≤ N.natAbs) → post 0) :
    wpY_areSmall post v (gz_i x) (gz_i y) (gz_i z) (gz_i N) := by
  unfold wpY_areSmall
  refine gy_wi hx hN (fun a1 => br_f (by decide) ?_) (fun a1 => br_t rfl (h0 (fun h => a1 h.1)))
  refine gy_wi hy hN (fun a2 => br_f (by decide) ?_) (fun a2 => br_t rfl (h0 (fun h => a2 h.2.1)))
  exact gy_wi hz hN (fun a3 => br_f (by decide) (h1 a1 a2 a3)) (fun a3 => br_t rfl (h0 (fun h => a3 h.2.2)))
def gz_w3 (w : Nat → Int) (n : Nat) (x y z : Int) : Nat → Int := fun j => if j = 3 * n + 2 then z else if j = 3 * n + 1 then y else if j = 3 * n then x else w j
theorem gz_w3s {n : Nat} {w : Nat → Int} {x y z : Int} (hw : gz_sw n w) (hn : n < 4) (hx : x.natAbs ≤ 9) (hy : y.natAbs ≤ 9) (hz : z.natAbs ≤ 9) : gz_sw (n + 1) (gz_w3 w n x y z) := by
  refine ⟨by omega, fun j hj => ?_⟩
  unfold gz_w3
  split
  · exact hz
  · split
    · exact hy
    · split
      · exact hx
      · exact hw.2 j (by omega)
theorem gz_w3c {n : Nat} {w : Nat → Int} {C : Nat → Int32} {x y z : Int} (hC : gz_cw n w C) : gz_cw (n + 1) (gz_w3 w n x y z) (upd (upd (upd C (3 * n) (gz_i x)) (3 * n + 1) (gz_i y)) (3 * n + 2) (gz_i z)) := by
  intro j hj
  unfold gz_w3
  split
  · next e => subst e; exact pk_us
  · next e =>
    rw [pk_un e]
    split
    · next e => subst e; exact pk_us
    · next e =>
      rw [pk_un e]
      split
      · next e => subst e; exact pk_us
      · next e =>
        rw [pk_un e]
        exact hC j (by omega)
theorem i_vc_add {k : Nat} {u : SX} {v : SY} (I : i_Rel k u v) (hk : k + 4 ≤ 2048) (v1 : Int32) (v2 : Int32) (v3 : Int32) : wpX_add (fun r u' => wpY_add (fun r' v' => r' = r ∧ i_Rel (k + 4) u' v') v v1 v2 v3) u v1 v2 v3 := by
  obtain ⟨rc, lsq, lsp, C, β, ρ⟩ := u
  obtain ⟨fc, ff, fl, D⟩ := v
  obtain ⟨n, w, hw, h1, hC, h2, hD⟩ := I
  dsimp only at h1 hC h2 hD
  subst h1 h2
  have hn := hw.1
  obtain ⟨x, rfl, hx⟩ := gz_iXe v1
  obtain ⟨y, rfl, hy⟩ := gz_iXe v2
  obtain ⟨z, rfl, hz⟩ := gz_iXe v3
  unfold wpX_add
  dsimp only
  refine gx_aw (N := 9) hx hy hz (by decide) (fun a1 a2 a3 => br_f (by decide) ?_) (fun hno => br_t rfl ?_)
  · refine pk_lt n 4 (fun hlt => ?_) (fun hge => ?_)
    · have e1 : (nI (3 * n)).toNatClampNeg = 3 * n := gx_cl (by omega)
      have e2 : (nI (3 * n) + 1).toNatClampNeg = 3 * n + 1 := gx_ad (b := 1) (by omega)
      have e3 : (nI (3 * n) + 2).toNatClampNeg = 3 * n + 2 := gx_ad (b := 2) (by omega)
      refine nm_r (gx_3c n) ⟨vp_in_nI (by omega) (by omega), nm_e ⟨gx_vi (b := 1) (by omega) (by omega), nm_e ⟨gx_vi (b := 2) (by omega) (by omega), nm_e (nm_r (nI_1 n) ?_)⟩⟩⟩
      rw [e1, e2, e3]
      unfold wpY_add
      dsimp only
      refine gy_aw (N := 9) hx hy hz (by decide) (fun _ _ _ => br_f (by decide) ?_) (fun hno => absurd ⟨a1, a2, a3⟩ hno)
      refine pk_eq n 4 (fun e => absurd e (by omega)) (fun _ => ?_)
      refine And.intro (gx_v3 (by omega) (by omega)) (nm_e ⟨gx_vi31 (by omega) (by omega), nm_e ⟨gx_vi32 (by omega) (by omega), nm_e (nm_r (nI_1 n) ?_)⟩⟩)
      rw [gx_cl3 (a := n) (by omega), gx_ad31 (a := n) (by omega), gx_ad32 (a := n) (by omega)]
      exact ⟨rfl, gz_mk (gz_w3s hw hlt a1 a2 a3) (gz_w3c hC) (gz_w3c hD)⟩
    · have e : n = 4 := by omega
      subst e
      unfold wpY_add
      dsimp only
      refine gy_aw (N := 9) hx hy hz (by decide) (fun _ _ _ => br_f (by decide) (br_t rfl ⟨rfl, gz_mk hw hC hD⟩)) (fun hno => absurd ⟨a1, a2, a3⟩ hno)
  · unfold wpY_add
    dsimp only
    exact gy_aw (N := 9) hx hy hz (by decide) (fun a1 a2 a3 => absurd ⟨a1, a2, a3⟩ hno) (fun _ => br_t rfl ⟨rfl, gz_mk hw hC hD⟩)
theorem i_vc_remove {k : Nat} {u : SX} {v : SY} (I : i_Rel k u v) (hk : k + 4 ≤ 2048) : wpX_remove (fun r u' => wpY_remove (fun r' v' => r' = r ∧ i_Rel (k + 4) u' v') v) u := by
  obtain ⟨rc, lsq, lsp, C, β, ρ⟩ := u
  obtain ⟨fc, ff, fl, D⟩ := v
  obtain ⟨n, w, hw, h1, hC, h2, hD⟩ := I
  dsimp only at h1 hC h2 hD
  subst h1 h2
  have hn := hw.1
  match n, hw, hC, hD, hn with
  | 0, hw, hC, hD, _ => exact br_t rfl (br_t rfl ⟨rfl, gz_mk hw hC hD⟩)
  | n + 1, hw, hC, hD, hn =>
    have hne : ¬ nI (n + 1) = 0 := nI_ne0 (by omega) (by omega)
    refine br_f hne (nm_r (nI_pred n) (br_f hne (nm_r (nI_pred n) ⟨rfl, gz_mk (w := w) ⟨by omega, fun j hj => hw.2 j (by omega)⟩ (fun j hj => hC j (by omega)) (fun j hj => hD j (by omega))⟩)))
theorem i_vc_rows {k : Nat} {u : SX} {v : SY} (I : i_Rel k u v) (hk : k + 4 ≤ 2048) : wpX_rows (fun r => wpY_rows (fun r' => r' = r ∧ i_Rel (k + 4) u v) v) u := by
  obtain ⟨rc, lsq, lsp, C, β, ρ⟩ := u
  obtain ⟨fc, ff, fl, D⟩ := v
  have J := I
  obtain ⟨n, w, hw, h1, hC, h2, hD⟩ := I
  dsimp only at h1 hC h2 hD
  exact ⟨h2.trans h1.symm, J⟩
def gz_w1 (w : Nat → Int) (i : Nat) (x : Int) : Nat → Int := fun j => if j = i then x else w j
theorem gz_w1c {n i : Nat} {w : Nat → Int} {C : Nat → Int32} {x : Int} (hC : gz_cw n w C) : gz_cw n (gz_w1 w i x) (upd C i (gz_i x)) := by
  intro j hj
  unfold gz_w1
  split
  · next e => subst e; exact pk_us
  · next e => rw [pk_un e]; exact hC j hj
theorem gz_w1s {n i : Nat} {w : Nat → Int} {x : Int} (hw : gz_sw n w) (hx : x.natAbs ≤ 9) : gz_sw n (gz_w1 w i x) := by
  refine ⟨hw.1, fun j hj => ?_⟩
  unfold gz_w1
  split
  · exact hx
  · exact hw.2 j hj
/-- a row number, or not -/
theorem gz_rn (x : Int32) {n : Nat} (hn : n < 2147483648) : (∃ j, j < n ∧ x = nI j) ∨ (x < 0 ∨ (¬ x < 0 ∧ nI n ≤ x)) := by
  by_cases h : x < 0
  · exact Or.inr (Or.inl h)
  · rcases pk_ix x hn with h1 | h1 | h1
    · exact absurd h1 h
    · exact Or.inr (Or.inr ⟨h, h1⟩)
    · exact Or.inl h1
theorem gx_row1 {post : Int32 → Prop} {n j : Nat} {lsq lsp : Int32} {C : Nat → Int32} {β ρ : Nat → Int64} (hj : j < n) (hn : n < 2147483648) (h : post 1) : wpX_isRow post (nI n, lsq, lsp, C, β, ρ) (nI j) :=
  br_f (nI_pos (by omega)) (br_f (nI_ge hj (by omega)) h)
theorem gx_row0 {post : Int32 → Prop} {n : Nat} {x lsq lsp : Int32} {C : Nat → Int32} {β ρ : Nat → Int64} (hx : x < 0 ∨ (¬ x < 0 ∧ nI n ≤ x)) (h : post 0) : wpX_isRow post (nI n, lsq, lsp, C, β, ρ) x := by
  rcases hx with hx | ⟨h1, h2⟩
  · exact br_t hx h
  · exact br_f h1 (br_t h2 h)
theorem gx_col1 {post : Int32 → Prop} {j : Nat} (hj : j < 3) (h : post 1) : wpX_isColumn post (nI j) := br_f (nI_pos (by omega)) (br_f (nI_ge (b := 3) hj (by decide)) h)
theorem gx_col0 {post : Int32 → Prop} {x : Int32} (hx : x < 0 ∨ (¬ x < 0 ∧ nI 3 ≤ x)) (h : post 0) : wpX_isColumn post x := by
  rcases hx with hx | ⟨h1, h2⟩
  · exact br_t hx h
  · exact br_f h1 (br_t h2 h)
theorem gy_col0 {A B : Prop} {x : Int32} (hx : x < 0 ∨ (¬ x < 0 ∧ nI 3 ≤ x)) (h : A) : (x < 0 → A) ∧ (¬ x < 0 → ((2 < x → A) ∧ (¬ 2 < x → B))) := by
  rcases hx with hx | ⟨h1, h2⟩
  · exact br_t hx h
  · refine br_f h1 (br_t ?_ h)
    have e2 : (2 : Int32).toInt = 2 := by decide
    have e3 : (nI 3).toInt = 3 := by decide
    rw [Int32.le_iff_toInt_le, e3] at h2
    rw [Int32.lt_iff_toInt_lt, e2]
    omega
theorem gy_col1 {A B : Prop} {j : Nat} (hj : j < 3) (h : B) : (nI j < 0 → A) ∧ (¬ nI j < 0 → ((2 < nI j → A) ∧ (¬ 2 < nI j → B))) :=
  br_f (nI_pos (by omega)) (br_f (nI_nlt (a := 2) (by omega) (by decide)) h)
theorem gy_col2 {A B : Prop} {x : Int32} (hx : x < 0 ∨ (¬ x < 0 ∧ nI 3 ≤ x)) (h : A) : (x < 0 → A) ∧ (¬ x < 0 → ((x ≤ 2 → B) ∧ (¬ x ≤ 2 → A))) := by
  rcases hx with hx | ⟨h1, h2⟩
  · exact br_t hx h
  · refine br_f h1 (br_f ?_ h)
    have e2 : (2 : Int32).toInt = 2 := by decide
    have e3 : (nI 3).toInt = 3 := by decide
    rw [Int32.le_iff_toInt_le, e3] at h2
    rw [Int32.le_iff_toInt_le, e2]
    omega
theorem gy_col3 {A B : Prop} {j : Nat} (hj : j < 3) (h : B) : (nI j < 0 → A) ∧ (¬ nI j < 0 → ((nI j ≤ 2 → B) ∧ (¬ nI j ≤ 2 → A))) :=
  br_f (nI_pos (by omega)) (br_t (nI_le (b := 2) (by omega) (by decide)) h)
theorem i_vc_set {k : Nat} {u : SX} {v : SY} (I : i_Rel k u v) (hk : k + 4 ≤ 2048) (v1 : Int32) (v2 : Int32) (v3 : Int32) : wpX_set (fun r u' => wpY_set (fun r' v' => r' = r ∧ i_Rel (k + 4) u' v') v v1 v2 v3) u v1 v2 v3 := by
  obtain ⟨rc, lsq, lsp, C, β, ρ⟩ := u
  obtain ⟨fc, ff, fl, D⟩ := v
  obtain ⟨n, w, hw, h1, hC, h2, hD⟩ := I
  dsimp only at h1 hC h2 hD
  subst h1 h2
  have hn := hw.1
  obtain ⟨z, rfl, hz⟩ := gz_iXe v3
  have ok := gz_mk (k := k + 4) (lsq := lsq) (lsp := lsp) (ff := ff) (fl := fl) (β := β) (ρ := ρ) hw hC hD
  unfold wpX_set
  dsimp only
  rcases gz_rn v1 (n := n) (by omega) with ⟨r, hr, rfl⟩ | hr
  · refine gx_row1 hr (by omega) (br_f (by decide) ?_)
    rcases gz_rn v2 (n := 3) (by omega) with ⟨c, hc, rfl⟩ | hc
    · refine gx_col1 hc (br_f (by decide) ?_)
      refine gx_wi (N := 9) hz (by decide) (fun hzb => br_f (by decide) ?_) (fun hno => br_t rfl ?_)
      · have ex : 3 * nI r + nI c = nI (3 * r + c) := by rw [gx_3c, nI_add]
        have e1 : (nI (3 * r + c)).toNatClampNeg = 3 * r + c := gx_cl (by omega)
        refine nm_r ex ⟨vp_in_nI (by omega) (by omega), nm_e ⟨vp_in_nI (by omega) (by omega), nm_e ?_⟩⟩
        rw [e1]
        refine br_f (nI_pos (by omega)) (br_f (nI_ge hr (by omega)) (gy_col1 hc ?_))
        refine gy_wi (N := 9) hz (by decide) (fun _ => br_f (by decide) ?_) (fun hno => absurd hzb hno)
        refine ⟨gx_vi3 (by omega) (by omega), nm_e ⟨gx_vi3 (by omega) (by omega), nm_e ?_⟩⟩
        rw [gx_ad3 (a := r) (b := c) (by omega)]
        refine ⟨?_, gz_mk (gz_w1s hw hzb) (gz_w1c hC) (gz_w1c hD)⟩
        rw [hC _ (show 3 * r + c < 3 * n by omega), hD _ (show 3 * r + c < 3 * n by omega)]
      · exact br_f (nI_pos (by omega)) (br_f (nI_ge hr (by omega)) (gy_col1 hc (gy_wi (N := 9) hz (by decide) (fun h => absurd h hno) (fun _ => br_t rfl ⟨rfl, ok⟩))))
    · exact gx_col0 hc (br_t rfl (br_f (nI_pos (by omega)) (br_f (nI_ge hr (by omega)) (gy_col0 hc ⟨rfl, ok⟩))))
  · refine gx_row0 hr (br_t rfl ?_)
    rcases hr with hr | ⟨hr1, hr2⟩
    · exact br_t hr ⟨rfl, ok⟩
    · exact br_f hr1 (br_t hr2 ⟨rfl, ok⟩)
def gz_sp (c d : Nat) : Nat → (Nat → Int) → (Nat → Int)
  | 0, w => w
  | i + 1, w => fun j => if j = 3 * i + d then gz_sp c d i w (3 * i + c) else if j = 3 * i + c then gz_sp c d i w (3 * i + d) else gz_sp c d i w j
theorem gz_sps {n c d : Nat} {w : Nat → Int} (hw : gz_sw n w) (hc : c < 3) (hd : d < 3) : ∀ i, i ≤ n → gz_sw n (gz_sp c d i w) := by
  intro i
  induction i with
  | zero => exact fun _ => hw
  | succ i ih =>
    intro hi
    have h := ih (by omega)
    refine ⟨hw.1, fun j hj => ?_⟩
    unfold gz_sp
    split
    · exact h.2 _ (by omega)
    · split
      · exact h.2 _ (by omega)
      · exact h.2 j hj
theorem gz_spc {n c d i : Nat} {w : Nat → Int} {C : Nat → Int32} (hi : i < n) (hc : c < 3) (hd : d < 3) (hC : gz_cw n (gz_sp c d i w) C) :
    gz_cw n (gz_sp c d (i + 1) w) (upd (upd C (3 * i + c) (C (3 * i + d))) (3 * i + d) (C (3 * i + c))) := by
  intro j hj
  unfold gz_sp
  split
  · next e => subst e; rw [pk_us]; exact hC _ (by omega)
  · next e =>
    rw [pk_un e]
    split
    · next e => subst e; rw [pk_us]; exact hC _ (by omega)
    · next e => rw [pk_un e]; exact hC j hj
theorem i_vc_swap {k : Nat} {u : SX} {v : SY} (I : i_Rel k u v) (hk : k + 4 ≤ 2048) (v1 : Int32) (v2 : Int32) : wpX_swap (fun r u' => wpY_swap (fun r' v' => r' = r ∧ i_Rel (k + 4) u' v') v v1 v2) u v1 v2 := by
  obtain ⟨rc, lsq, lsp, C, β, ρ⟩ := u
  obtain ⟨fc, ff, fl, D⟩ := v
  obtain ⟨n, w, hw, h1, hC, h2, hD⟩ := I
  dsimp only at h1 hC h2 hD
  subst h1 h2
  have hn := hw.1
  have ok := gz_mk (k := k + 4) (lsq := lsq) (lsp := lsp) (ff := ff) (fl := fl) (β := β) (ρ := ρ) hw hC hD
  unfold wpX_swap
  dsimp only
  rcases gz_rn v1 (n := 3) (by omega) with ⟨c, hc, rfl⟩ | hc
  · refine gx_col1 hc (br_f (by decide) ?_)
    rcases gz_rn v2 (n := 3) (by omega) with ⟨d, hd, rfl⟩ | hd
    · refine gx_col1 hd (br_f (by decide) ?_)
      refine loop_0 (fun m i (E : Nat → Int32) => wX_swap_18 (fun r u' => wpY_swap (fun r' v' => r' = r ∧ i_Rel (k + 4) u' v') (nI n, ff, fl, D) (nI c) (nI d)) (nI c) (nI d) (nI n) lsq lsp m (nI i) E β ρ)
        (fun i E => gz_cw n (gz_sp c d i w) E) n C hC ?_ ?_
      · intro m E hE
        refine br_t (nI_le (Nat.le_refl n) (by omega)) (gy_col1 hc (gy_col3 hd ?_))
        refine loop_0 (fun m i (F : Nat → Int32) => wY_swap_22 (fun r' v' => r' = nI n ∧ i_Rel (k + 4) (nI n, lsq, lsp, E, β, ρ) v') (nI c) (nI d) (nI n) ff fl m (nI i) F)
          (fun i F => gz_cw n (gz_sp c d i w) F) n D hD ?_ ?_
        · intro m F hF
          exact br_t (nI_le (Nat.le_refl n) (by omega)) ⟨rfl, gz_mk (gz_sps hw hc hd n (Nat.le_refl n)) hE hF⟩
        · intro m i F hi hF K
          have vc : vp_in (3 * nI i + nI c) 15 := gx_vi3 (by omega) (by omega)
          have vd : vp_in (3 * nI i + nI d) 15 := gx_vi3 (by omega) (by omega)
          refine br_f (nI_ge hi (by omega)) ⟨vc, nm_e ⟨vd, vc, nm_e ⟨vd, nm_e (nm_r (nI_1 i) (K _ ?_))⟩⟩⟩
          rw [gx_ad3 (a := i) (b := c) (by omega), gx_ad3 (a := i) (b := d) (by omega)]
          exact gz_spc hi hc hd hF
      · intro m i E hi hE K
        have vc : vp_in (nI (3 * i) + nI c) 12 := gx_vi (by omega) (by omega)
        have vd : vp_in (nI (3 * i) + nI d) 12 := gx_vi (by omega) (by omega)
        refine br_f (nI_ge hi (by omega)) (nm_r (gx_3c i) ⟨vc, nm_e ⟨vd, vc, nm_e ⟨vd, nm_e (nm_r (nI_1 i) (K _ ?_))⟩⟩⟩)
        rw [gx_ad (a := 3 * i) (b := c) (by omega), gx_ad (a := 3 * i) (b := d) (by omega)]
        exact gz_spc hi hc hd hE
    · exact gx_col0 hd (br_t rfl (gy_col1 hc (gy_col2 hd ⟨rfl, ok⟩)))
  · exact gx_col0 hc (br_t rfl (gy_col0 hc ⟨rfl, ok⟩))
