/-! X: the basis brought into its ranges, row by row -/
theorem gx_m2 {post : SX → Prop} {rc lsq lsp : Int32} {C : Nat → Int32} {β ρ : Nat → Int64} {T : gz_V → Prop} {a p q b s c : Int}
    (hb : gz_bs β a p q b s c) (hP : gz_P3 T a p q b s c) (h : ∀ β' c', gz_bs β' a p q b s c' → gz_P3 T a p q b s c' → 0 ≤ c' → post (rc, lsq, lsp, C, β', ρ)) :
    wpX_makeStepPositive post (rc, lsq, lsp, C, β, ρ) 2 := by
  obtain ⟨b0, b1, b2, b3, b4, b5, b6, b7, b8⟩ := hb
  obtain ⟨hs, ⟨z1, z2⟩, k1, k2, k3, k4, k5, k6⟩ := hP
  refine gx_msp 2 (by decide) b8 (by omega) (fun h0 => ?_) (fun h0 => ?_)
  · exact h β c ⟨b0, b1, b2, b3, b4, b5, b6, b7, b8⟩ ⟨hs, ⟨z1, z2⟩, k1, k2, k3, k4, k5, k6⟩ h0
  · refine h (gx_ng 2 β) (-c) ⟨?_, ?_, ?_, ?_, ?_, ?_, ?_, ?_, ?_⟩ ⟨fun v => (gz_sg2 v).symm.trans (hs v), ⟨?_, ?_⟩, by omega, by omega, by omega, by omega, by omega, by omega⟩ (by omega)
    · exact (gx_no (by decide)).trans b0
    · exact (gx_no (by decide)).trans b1
    · exact (gx_no (by decide)).trans b2
    · exact (gx_no (by decide)).trans b3
    · exact (gx_no (by decide)).trans b4
    · exact (gx_no (by decide)).trans b5
    · exact (gx_no (by decide)).trans b6
    · exact (gx_no (by decide)).trans b7
    · exact (gx_ni (by decide)).trans (by rw [b8, gz_lng])
    · intro h; have := z1 (by omega); omega
    · intro h; have := z2 (by omega); omega
theorem gx_m1 {post : SX → Prop} {rc lsq lsp : Int32} {C : Nat → Int32} {β ρ : Nat → Int64} {T : gz_V → Prop} {a p q b s c : Int}
    (hb : gz_bs β a p q b s c) (hP : gz_P3 T a p q b s c) (h : ∀ β' b' s', gz_bs β' a p q b' s' c → gz_P3 T a p q b' s' c → 0 ≤ b' → post (rc, lsq, lsp, C, β', ρ)) :
    wpX_makeStepPositive post (rc, lsq, lsp, C, β, ρ) 1 := by
  obtain ⟨b0, b1, b2, b3, b4, b5, b6, b7, b8⟩ := hb
  obtain ⟨hs, ⟨z1, z2⟩, k1, k2, k3, k4, k5, k6⟩ := hP
  refine gx_msp 1 (by decide) b4 (by omega) (fun h0 => ?_) (fun h0 => ?_)
  · exact h β b s ⟨b0, b1, b2, b3, b4, b5, b6, b7, b8⟩ ⟨hs, ⟨z1, z2⟩, k1, k2, k3, k4, k5, k6⟩ h0
  · refine h (gx_ng 1 β) (-b) (-s) ⟨?_, ?_, ?_, ?_, ?_, ?_, ?_, ?_, ?_⟩ ⟨fun v => (gz_sg1 v).symm.trans (hs v), ⟨?_, ?_⟩, by omega, by omega, by omega, by omega, by omega, by omega⟩ (by omega)
    · exact (gx_no (by decide)).trans b0
    · exact (gx_no (by decide)).trans b1
    · exact (gx_no (by decide)).trans b2
    · exact (gx_no (by decide)).trans b3
    · exact (gx_ni (by decide)).trans (by rw [b4, gz_lng])
    · exact (gx_ni (by decide)).trans (by rw [b5, gz_lng])
    · exact (gx_no (by decide)).trans b6
    · exact (gx_no (by decide)).trans b7
    · exact (gx_no (by decide)).trans b8
    · intro h; have := z1 (by omega); omega
    · intro h; have := z2 (by omega); omega
theorem gx_m0 {post : SX → Prop} {rc lsq lsp : Int32} {C : Nat → Int32} {β ρ : Nat → Int64} {T : gz_V → Prop} {a p q b s c : Int}
    (hb : gz_bs β a p q b s c) (hP : gz_P3 T a p q b s c) (h : ∀ β' a' p' q', gz_bs β' a' p' q' b s c → gz_P3 T a' p' q' b s c → 0 ≤ a' → post (rc, lsq, lsp, C, β', ρ)) :
    wpX_makeStepPositive post (rc, lsq, lsp, C, β, ρ) 0 := by
  obtain ⟨b0, b1, b2, b3, b4, b5, b6, b7, b8⟩ := hb
  obtain ⟨hs, ⟨z1, z2⟩, k1, k2, k3, k4, k5, k6⟩ := hP
  refine gx_msp 0 (by decide) b0 (by omega) (fun h0 => ?_) (fun h0 => ?_)
  · exact h β a p q ⟨b0, b1, b2, b3, b4, b5, b6, b7, b8⟩ ⟨hs, ⟨z1, z2⟩, k1, k2, k3, k4, k5, k6⟩ h0
  · refine h (gx_ng 0 β) (-a) (-p) (-q) ⟨?_, ?_, ?_, ?_, ?_, ?_, ?_, ?_, ?_⟩ ⟨fun v => (gz_sg0 v).symm.trans (hs v), ⟨?_, ?_⟩, by omega, by omega, by omega, by omega, by omega, by omega⟩ (by omega)
    · exact (gx_ni (by decide)).trans (by rw [b0, gz_lng])
    · exact (gx_ni (by decide)).trans (by rw [b1, gz_lng])
    · exact (gx_ni (by decide)).trans (by rw [b2, gz_lng])
    · exact (gx_no (by decide)).trans b3
    · exact (gx_no (by decide)).trans b4
    · exact (gx_no (by decide)).trans b5
    · exact (gx_no (by decide)).trans b6
    · exact (gx_no (by decide)).trans b7
    · exact (gx_no (by decide)).trans b8
    · intro h; have := z1 (by omega); omega
    · intro h; have := z2 (by omega); omega
theorem gx_r12 {post : SX → Prop} {rc lsq lsp : Int32} {C : Nat → Int32} {β ρ : Nat → Int64} {T : gz_V → Prop} {a p q b s c : Int}
    (hb : gz_bs β a p q b s c) (hP : gz_P3 T a p q b s c) (hc : 0 ≤ c) (h : ∀ β' s', gz_bs β' a p q b s' c → gz_P3 T a p q b s' c → (c ≠ 0 → 0 ≤ s' ∧ s' < c) → post (rc, lsq, lsp, C, β', ρ)) :
    wpX_reduceNumber post (rc, lsq, lsp, C, β, ρ) 1 2 := by
  obtain ⟨b0, b1, b2, b3, b4, b5, b6, b7, b8⟩ := hb
  obtain ⟨hs, ⟨z1, z2⟩, k1, k2, k3, k4, k5, k6⟩ := hP
  refine gx_red 1 2 (by decide) (by decide) b8 b5 hc (by omega) (by omega) (fun h0 => ?_) (fun t h0 ht => ?_)
  · exact h β s ⟨b0, b1, b2, b3, b4, b5, b6, b7, b8⟩ ⟨hs, ⟨z1, z2⟩, k1, k2, k3, k4, k5, k6⟩ (fun e => absurd h0 e)
  · obtain ⟨t1, t2, t3, t4⟩ := ht
    refine h (gx_rd 1 2 (gz_l t) β) (s - t * c) ⟨?_, ?_, ?_, ?_, ?_, ?_, ?_, ?_, ?_⟩ ⟨fun v => (gz_rg1 t v).symm.trans (hs v), ⟨z1, fun e => ?_⟩, k1, k2, k3, k4, by omega, k6⟩ (fun _ => ⟨t1, t2⟩)
    · exact (gx_do (by decide)).trans b0
    · exact (gx_do (by decide)).trans b1
    · exact (gx_do (by decide)).trans b2
    · exact (gx_do (by decide)).trans b3
    · exact (gx_do (by decide)).trans b4
    · exact (gx_di (by decide)).trans (gx_s b5 b8)
    · exact (gx_do (by decide)).trans b6
    · exact (gx_do (by decide)).trans b7
    · exact (gx_do (by decide)).trans b8
    · rw [t3 (z2 e), z2 e, Int.zero_mul, Int.sub_zero]
theorem gx_r01 {post : SX → Prop} {rc lsq lsp : Int32} {C : Nat → Int32} {β ρ : Nat → Int64} {T : gz_V → Prop} {a p q b s c : Int}
    (hb : gz_bs β a p q b s c) (hP : gz_P3 T a p q b s c) (hc : 0 ≤ b)
    (h : ∀ β' p' q', gz_bs β' a p' q' b s c → (∀ v, gz_Sp (gz_B a p' q' b s c) v ↔ T v) → gz_Z a p' q' b s → q'.natAbs < 4611686018427387904 → (b ≠ 0 → 0 ≤ p' ∧ p' < b) → post (rc, lsq, lsp, C, β', ρ)) :
    wpX_reduceNumber post (rc, lsq, lsp, C, β, ρ) 0 1 := by
  obtain ⟨b0, b1, b2, b3, b4, b5, b6, b7, b8⟩ := hb
  obtain ⟨hs, ⟨z1, z2⟩, k1, k2, k3, k4, k5, k6⟩ := hP
  refine gx_red 0 1 (by decide) (by decide) b4 b1 hc (by omega) (by omega) (fun h0 => ?_) (fun t h0 ht => ?_)
  · exact h β p q ⟨b0, b1, b2, b3, b4, b5, b6, b7, b8⟩ hs ⟨z1, z2⟩ (by omega) (fun e => absurd h0 e)
  · obtain ⟨t1, t2, t3, t4⟩ := ht
    have t5 : (t * s).natAbs ≤ 237736 * 1078365960 := gz_pm (by omega) k5
    refine h (gx_rd 0 1 (gz_l t) β) (p - t * b) (q - t * s) ⟨?_, ?_, ?_, ?_, ?_, ?_, ?_, ?_, ?_⟩ (fun v => (gz_rg0 t v).symm.trans (hs v)) ⟨fun e => ?_, z2⟩ ?_ (fun _ => ⟨t1, t2⟩)
    · exact (gx_do (by decide)).trans b0
    · exact (gx_di (by decide)).trans (gx_s b1 b4)
    · exact (gx_di (by decide)).trans (gx_s b2 b5)
    · exact (gx_do (by decide)).trans b3
    · exact (gx_do (by decide)).trans b4
    · exact (gx_do (by decide)).trans b5
    · exact (gx_do (by decide)).trans b6
    · exact (gx_do (by decide)).trans b7
    · exact (gx_do (by decide)).trans b8
    · rw [t3 (z1 e).1, (z1 e).1, (z1 e).2, Int.zero_mul, Int.zero_mul]
      exact ⟨rfl, rfl⟩
    · generalize t * s = x at t5 ⊢
      omega
theorem gx_r02 {post : SX → Prop} {rc lsq lsp : Int32} {C : Nat → Int32} {β ρ : Nat → Int64} {T : gz_V → Prop} {a p q b s c : Int}
    (hb : gz_bs β a p q b s c) (hs : ∀ v, gz_Sp (gz_B a p q b s c) v ↔ T v) (hZ : gz_Z a p q b s) (hq : q.natAbs < 4611686018427387904) (hc : 0 ≤ c) (hc2 : c.natAbs < 4294967296)
    (h : ∀ β' q', gz_bs β' a p q' b s c → (∀ v, gz_Sp (gz_B a p q' b s c) v ↔ T v) → gz_Z a p q' b s → (c ≠ 0 → 0 ≤ q' ∧ q' < c) → post (rc, lsq, lsp, C, β', ρ)) :
    wpX_reduceNumber post (rc, lsq, lsp, C, β, ρ) 0 2 := by
  obtain ⟨b0, b1, b2, b3, b4, b5, b6, b7, b8⟩ := hb
  obtain ⟨z1, z2⟩ := hZ
  refine gx_red 0 2 (by decide) (by decide) b8 b2 hc hc2 hq (fun h0 => ?_) (fun t h0 ht => ?_)
  · exact h β q ⟨b0, b1, b2, b3, b4, b5, b6, b7, b8⟩ hs ⟨z1, z2⟩ (fun e => absurd h0 e)
  · obtain ⟨t1, t2, t3, t4⟩ := ht
    refine h (gx_rd 0 2 (gz_l t) β) (q - t * c) ⟨?_, ?_, ?_, ?_, ?_, ?_, ?_, ?_, ?_⟩ (fun v => (gz_rg2 t v).symm.trans (hs v)) ⟨fun e => ?_, z2⟩ (fun _ => ⟨t1, t2⟩)
    · exact (gx_do (by decide)).trans b0
    · exact (gx_do (by decide)).trans b1
    · exact (gx_di (by decide)).trans (gx_s b2 b8)
    · exact (gx_do (by decide)).trans b3
    · exact (gx_do (by decide)).trans b4
    · exact (gx_do (by decide)).trans b5
    · exact (gx_do (by decide)).trans b6
    · exact (gx_do (by decide)).trans b7
    · exact (gx_do (by decide)).trans b8
    · rw [t3 (z1 e).2, (z1 e).1, (z1 e).2, Int.zero_mul]
      exact ⟨rfl, rfl⟩
theorem gx_bring {post : SX → Prop} {rc lsq lsp : Int32} {C : Nat → Int32} {β ρ : Nat → Int64} {T : gz_V → Prop} {a p q b s c : Int}
    (hb : gz_bs β a p q b s c) (hP : gz_P3 T a p q b s c)
    (h : ∀ β' a p q b s c, gz_bs β' a p q b s c → (∀ v, gz_Sp (gz_B a p q b s c) v ↔ T v) → gz_H a p q b s c → post (rc, lsq, lsp, C, β', ρ)) :
    wpX_bringIntoRange post (rc, lsq, lsp, C, β, ρ) := by
  refine ⟨4, br_f (by decide) (gx_m2 hb hP ?_)⟩
  intro β1 c1 hb1 hP1 hc1
  refine nm_r (show (2 : Int32) + 1 = 3 by decide) ⟨1, br_t (by decide) (nm_r (show (2 : Int32) + (-1) = 1 by decide) (br_f (by decide) (gx_m1 hb1 hP1 ?_)))⟩
  intro β2 b2 s2 hb2 hP2 hb2'
  refine nm_r (show (1 : Int32) + 1 = 2 by decide) ⟨2, br_f (by decide) (gx_r12 hb2 hP2 hc1 ?_)⟩
  intro β3 s3 hb3 hP3 hs3
  refine nm_r (show (2 : Int32) + 1 = 3 by decide) (br_t (by decide) (nm_r (show (1 : Int32) + (-1) = 0 by decide) (br_f (by decide) (gx_m0 hb3 hP3 ?_))))
  intro β4 a4 p4 q4 hb4 hP4 ha4
  refine nm_r (show (0 : Int32) + 1 = 1 by decide) ⟨3, br_f (by decide) (gx_r01 hb4 hP4 hb2' ?_)⟩
  intro β5 p5 q5 hb5 hs5 hZ5 hq5 hp5
  refine nm_r (show (1 : Int32) + 1 = 2 by decide) (br_f (by decide) (gx_r02 hb5 hs5 hZ5 hq5 hc1 (by have := hP4.2.2.2.2.2.2.2; omega) ?_))
  intro β6 q6 hb6 hs6 hZ6 hq6
  refine nm_r (show (2 : Int32) + 1 = 3 by decide) (br_t (by decide) (nm_r (show (0 : Int32) + (-1) = -1 by decide) (br_t (by decide) ?_)))
  exact h _ _ _ _ _ _ _ hb6 hs6 ⟨hZ6, ha4, hb2', hc1, hp5, fun e => ⟨(hq6 e).1, (hq6 e).2, (hs3 e).1, (hs3 e).2⟩⟩
/-- the rows below k, all but lo -/
def gz_R (w : Nat → Int) (lo : Int32) (k : Nat) : gz_V → Prop := gz_G k (fun r => ¬ nI r = lo) (gz_ro w)
theorem gz_Rs {n k : Nat} {w : Nat → Int} {lo : Int32} (hw : gz_sw n w) (hk : k ≤ n) : gz_Sm (gz_R w lo k) :=
  gz_Gs (fun r hr _ => ⟨hw.2 _ (by omega), hw.2 _ (by omega), hw.2 _ (by omega)⟩)
theorem gz_R0 {w : Nat → Int} {lo : Int32} (v : gz_V) : gz_Sp (gz_B 0 0 0 0 0 0) v ↔ gz_Sp (gz_R w lo 0) v := by
  apply gz_SpE
  · intro g hg
    rcases hg with rfl | rfl | rfl <;> exact gz_Sp0
  · intro g ⟨r, hr, _⟩
    exact absurd hr (by omega)
theorem gz_Ry {w : Nat → Int} {lo : Int32} {k : Nat} (h : nI k = lo) (v : gz_V) : gz_Sp (gz_R w lo k) v ↔ gz_Sp (gz_R w lo (k + 1)) v := by
  apply gz_SpE
  · intro g ⟨r, hr, hn, e⟩
    exact gz_SpG ⟨r, by omega, hn, e⟩
  · intro g ⟨r, hr, hn, e⟩
    by_cases hk : r = k
    · subst hk; exact absurd h hn
    · exact gz_SpG ⟨r, by omega, hn, e⟩
theorem gz_Rn {w : Nat → Int} {lo : Int32} {k : Nat} (h : ¬ nI k = lo) (v : gz_V) : gz_Sp (gz_pl (gz_R w lo k) (gz_ro w k)) v ↔ gz_Sp (gz_R w lo (k + 1)) v := by
  apply gz_SpE
  · intro g hg
    rcases hg with ⟨r, hr, hn, e⟩ | e
    · exact gz_SpG ⟨r, by omega, hn, e⟩
    · exact gz_SpG ⟨k, by omega, h, e⟩
  · intro g ⟨r, hr, hn, e⟩
    by_cases hk : r = k
    · subst hk; exact gz_SpG (Or.inr e)
    · exact gz_SpG (Or.inl ⟨r, by omega, hn, e⟩)
theorem gx_span {post : SX → Prop} {lsq lsp lo : Int32} {C : Nat → Int32} {β ρ : Nat → Int64} {n : Nat} {w : Nat → Int} (hw : gz_sw n w) (hC : gz_cw n w C)
    (h : ∀ β' ρ' a p q b s c, gz_bs β' a p q b s c → (∀ v, gz_Sp (gz_B a p q b s c) v ↔ gz_Sp (gz_R w lo n) v) → gz_H a p q b s c → post (nI n, lsq, lsp, C, β', ρ')) :
    wpX_spanWithout post (nI n, lsq, lsp, C, β, ρ) lo := by
  have hn := hw.1
  refine loop_0 (fun m i (s : Nat → Int64) => wX_spanWithout_2 post lo (nI n) lsq lsp m (nI i) C s ρ) (fun i s => ∀ j, j < i → s j = 0) 9 β lt_0 ?_ ?_
  · intro m t ht
    refine br_t (by decide) ?_
    refine loop_0 (fun m i (s : (Nat → Int64) × (Nat → Int64)) => wX_spanWithout_23 post lo m (nI i) (nI n) lsq lsp C s.1 s.2)
      (fun i s => ∃ a p q b s1 c, gz_bs s.1 a p q b s1 c ∧ (∀ v, gz_Sp (gz_B a p q b s1 c) v ↔ gz_Sp (gz_R w lo i) v) ∧ gz_H a p q b s1 c) n (t, ρ) ?_ ?_ ?_
    · refine ⟨0, 0, 0, 0, 0, 0, ⟨ht 0 (by decide), ht 1 (by decide), ht 2 (by decide), ht 3 (by decide), ht 4 (by decide), ht 5 (by decide), ht 6 (by decide), ht 7 (by decide), ht 8 (by decide)⟩, gz_R0, ⟨⟨fun _ => ⟨rfl, rfl⟩, fun _ => rfl⟩, by decide, by decide, by decide, fun e => absurd rfl e, fun e => absurd rfl e⟩⟩
    · intro m s ⟨a, p, q, b, s1, c, h1, h2, h3⟩
      exact br_t (nI_le (Nat.le_refl n) (by omega)) (h _ _ _ _ _ _ _ _ h1 h2 h3)
    · intro m i s hi ⟨a, p, q, b, s1, c, h1, h2, h3⟩ K
      refine br_f (nI_ge hi (by omega)) (br_c (fun e => ?_) (fun e => ?_))
      · exact nm_r (nI_1 i) (K s ⟨a, p, q, b, s1, c, h1, fun v => (h2 v).trans (gz_Ry e v), h3⟩)
      · refine gx_take hw hC hi (gz_Rs hw (by omega)) h2 h3 h1 ?_
        intro β1 ρ1 a1 p1 q1 b1 s2 c1 g1 g2
        refine gx_bring g1 g2 ?_
        intro β2 a2 p2 q2 b2 s3 c2 k1 k2 k3
        exact nm_r (nI_1 i) (K (β2, ρ1) ⟨a2, p2, q2, b2, s3, c2, k1, fun v => (k2 v).trans (gz_Rn e v), k3⟩)
  · intro m i t hi ht K
    refine br_f (nI_ge (b := 9) hi (by decide)) ⟨vp_in_nI hi (by omega), nm_e (nm_r (nI_1 i) (K _ ?_))⟩
    rw [gx_cl (a := i) (by omega)]
    intro j hj
    by_cases hji : j = i
    · subst hji
      exact pk_uLs
    · rw [pk_uLn hji]
      exact ht j (by omega)
