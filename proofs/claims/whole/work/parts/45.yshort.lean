/-! Y: the search for the shortest points -/
theorem gy_on {post : Int32 → Prop} {fc ff fl : Int32} {D : Nat → Int32} {v st d : Int} (hv : v.natAbs ≤ 100000000) (hst : st.natAbs ≤ 100000000) (hd : 0 ≤ d) (hd2 : d ≤ 4374)
    (h1 : d ∣ v - st → post 1) (h0 : ¬ d ∣ v - st → post 0) : wpY_isOn post (fc, ff, fl, D) (gz_i v) (gz_i st) (gy_sv d) := by
  have key : ∀ g : Int, g.natAbs ≤ 200000000 → (d ∣ g ↔ d ∣ v - st) → wY_isOn_14 post (gy_sv d) (gz_i g) fc ff fl D := by
    intro g hg hiff
    by_cases e : d = 0
    · rw [(gy_sv0 (e := 0) e).1]
      refine br_t rfl (gz_be g 0 (fun eg => h1 (hiff.1 (by rw [eg]; exact Int.dvd_zero d))) (fun eg => h0 (fun hx => ?_)))
      have h2 := hiff.2 hx
      rw [e] at h2
      exact eg (Int.zero_dvd.1 h2)
    · rw [(gy_sv1 (e := 0) e).1]
      refine gz_be d (-1000000) (fun e2 => absurd e2 (by omega)) (fun _ => ?_)
      have tb : (g.tmod d).natAbs < 4294967 := by
        rw [Int.natAbs_tmod]
        have := Nat.mod_lt g.natAbs (show 0 < d.natAbs by omega)
        omega
      refine ⟨fun e2 => e ((gz_iE (b := 0)).1 e2), gz_be (g.tmod d) 0 (fun e2 => h1 (hiff.1 (Int.dvd_of_tmod_eq_zero e2))) (fun e2 => h0 (fun hx => e2 (Int.tmod_eq_zero_of_dvd (hiff.2 hx)))) gz_iR⟩
  refine gz_bl st v (fun hle => ?_) (fun hlt => ?_)
  · rw [gz_is]
    exact key _ (by omega) Iff.rfl
  · rw [gz_is]
    refine key _ (by omega) ⟨fun hx => ?_, fun hx => ?_⟩
    · exact gz_dng hx (by omega)
    · exact gz_dng hx (by omega)
theorem gz_i16 (k : Nat) : gz_i ((k : Int) - 16) + 1 = gz_i (((k + 1 : Nat) : Int) - 16) := by
  have e : (1 : Int32) = gz_i 1 := rfl
  rw [e, gz_ia]
  exact gz_iq (by omega)
section
variable {post : SY → Prop} {D : Nat → Int32} {n : Nat} {a p q b s c : Int}
/-- one line of the search: the third step from start on -/
theorem gy_nl {L : Int} {t : Nat} {Cc : Int → Nat} {T : gz_V → Prop} {K x y st : Int} (hK : K ≤ 243) (hx : x.natAbs ≤ 16) (hy : y.natAbs ≤ 16) (hst : st.natAbs ≤ 100000000) (hc : 0 ≤ c) (hc2 : c ≤ 4374)
    (hT : ∀ z, T (x, y, z) ↔ c ∣ z - st) (hS : gz_Se K Cc L t)
    (h : ∀ L' t', gz_Se K (fun l => Cc l + gz_S 33 (fun k => gz_pt T l x y ((k : Int) - 16))) L' t' → post (nI n, nI t', gz_i L', D)) :
    wpY_noteLine post (nI n, nI t, gz_i L, D) (gz_i x) (gz_i y) (gz_i st) (gy_sv c) := by
  refine loop_0 (fun m k (r : Int × Nat) => wY_noteLine_4 post (gz_i x) (gz_i y) (gz_i st) (gy_sv c) (nI n) D m (gz_i ((k : Int) - 16)) (nI r.2) (gz_i r.1))
    (fun k r => gz_Se K (fun l => Cc l + gz_S k (fun k => gz_pt T l x y ((k : Int) - 16))) r.1 r.2) 33 (L, t) (gz_SeC hS (fun l _ => rfl)) ?_ ?_
  · intro m r hr
    exact br_t (by decide) (h r.1 r.2 hr)
  · intro m k r hk hr K2
    have go : ∀ L' t', gz_Se K (fun l => (Cc l + gz_S k (fun k => gz_pt T l x y ((k : Int) - 16))) + gz_pt T l x y ((k : Int) - 16)) L' t' →
        wY_noteLine_4 post (gz_i x) (gz_i y) (gz_i st) (gy_sv c) (nI n) D m (gz_i (((k + 1 : Nat) : Int) - 16)) (nI t') (gz_i L') := by
      intro L' t' hS'
      exact K2 (L', t') (gz_SeC hS' (fun l _ => Nat.add_assoc _ _ _))
    have e4 : gz_i x * gz_i x + gz_i y * gz_i y + gz_i ((k : Int) - 16) * gz_i ((k : Int) - 16) = gz_i (gz_sq x y ((k : Int) - 16)) := by
      rw [gz_im, gz_im, gz_im, gz_ia, gz_ia]
      rfl
    have hz : ((k : Int) - 16).natAbs ≤ 16 := by omega
    have m1 := gz_pm hx hx
    have m2 := gz_pm hy hy
    have m3 := gz_pm hz hz
    have qb : gz_sq x y ((k : Int) - 16) ≤ 768 := by
      unfold gz_sq
      omega
    have q0 : 0 ≤ gz_sq x y ((k : Int) - 16) := by
      have a1 := gz_sq0 x
      have a2 := gz_sq0 y
      have a3 := gz_sq0 ((k : Int) - 16)
      unfold gz_sq
      omega
    have l0 := hr.1
    have l1 := hr.2.1
    refine gz_bt 16 ((k : Int) - 16) (fun hlt => absurd hlt (by omega)) (fun _ => nm_r e4 ?_)
    refine gz_bl (gz_sq x y ((k : Int) - 16)) 0 (fun hle => nm_r (gz_i16 k) (go _ _ (gz_SeN hr (Or.inr (Or.inl hle))))) (fun hpos => ?_)
    refine gz_bt r.1 (gz_sq x y ((k : Int) - 16)) (fun hlt => nm_r (gz_i16 k) (go _ _ (gz_SeN hr (Or.inr (Or.inr hlt))))) (fun hle => ?_)
    refine gy_on (by omega) hst hc hc2 (fun hd => br_f (by decide) ?_) (fun hd => br_t rfl (nm_r (gz_i16 k) (go _ _ (gz_SeN hr (Or.inl (fun hm => hd ((hT _).1 hm)))))))
    have hm : T (x, y, (k : Int) - 16) := (hT _).2 hd
    refine gz_bl r.1 (gz_sq x y ((k : Int) - 16)) (fun h2 => ?_) (fun h2 => nm_r (gz_i16 k) (go _ 1 (gz_SeL hr hm hpos h2)))
    have e5 : gz_sq x y ((k : Int) - 16) = r.1 := by omega
    refine nm_r (nI_1 r.2) (nm_r (gz_i16 k) ?_)
    rw [e5]
    exact go r.1 (r.2 + 1) (gz_SeE hr hm e5)
/-- a line with no point of the grid -/
theorem gz_SeZ {T : gz_V → Prop} {K L x y : Int} {t : Nat} {Cc : Int → Nat} (hS : gz_Se K Cc L t) (hT : ∀ z, ¬ T (x, y, z)) : gz_Se K (fun l => Cc l + gz_S 33 (fun k => gz_pt T l x y ((k : Int) - 16))) L t := by
  refine gz_SeC hS (fun l _ => ?_)
  have e : gz_S 33 (fun k => gz_pt T l x y ((k : Int) - 16)) = 0 := gz_S0 (fun k _ => gz_ind0 (fun h => hT _ h.1))
  show Cc l = Cc l + gz_S 33 (fun k => gz_pt T l x y ((k : Int) - 16))
  rw [e, Nat.add_zero]
theorem gy_184 {K : Int} (hH : gz_H a p q b s c) (hB : gz_Bd a p q b s c) (hK : K ≤ 243) (hK0 : 0 < K)
    (h : ∀ L t, gz_Se K (gz_CY (gz_Sp (gz_B a p q b s c))) L t → post (nI n, nI t, gz_i L, D)) :
    ∃ m, wY_findShortest_184 post (gy_sv a) (gy_sv b) (gy_sv c) (gz_i p) (gz_i q) (gz_i s) m 0 (nI n) 0 (gz_i K) D := by
  obtain ⟨k1, k2, k3, k4, k5, k6⟩ := hB
  obtain ⟨hZ, g1, g2, g3, _, _⟩ := hH
  refine loop_0 (fun m i (r : Int × Nat) => wY_findShortest_184 post (gy_sv a) (gy_sv b) (gy_sv c) (gz_i p) (gz_i q) (gz_i s) m (nI i) (nI n) (nI r.2) (gz_i r.1) D)
    (fun i r => gz_Se K (fun l => gz_S i (fun i => gz_S 33 (fun k => gz_pt (gz_Sp (gz_B a p q b s c)) l (((i / 33 : Nat) : Int) - 16) (((i % 33 : Nat) : Int) - 16) ((k : Int) - 16)))) r.1 r.2) 1089 (K, 0) (gz_Se0 hK0) ?_ ?_
  · intro m r hr
    exact br_t (by decide) (h r.1 r.2 hr)
  · intro m i r hi hr K2
    have d33 : ¬ (33 : Int32) = 0 := by decide
    have ex : nI i / 33 - 16 = gz_i (((i / 33 : Nat) : Int) - 16) := by
      have e1 : nI i / 33 = nI (i / 33) := pk_div (d := 33) (by omega) (by decide) (by decide)
      have e2 : (16 : Int32) = gz_i 16 := rfl
      rw [e1, e2, ← gz_iN, gz_is]
    have ey : nI i - nI i / 33 * 33 - 16 = gz_i (((i % 33 : Nat) : Int) - 16) := by
      have e1 : nI i - nI i / 33 * 33 = nI (i % 33) := pk_rem (d := 33) (by omega) (by decide) (by decide)
      have e2 : (16 : Int32) = gz_i 16 := rfl
      rw [e1, e2, ← gz_iN, gz_is]
    have xb : (((i / 33 : Nat) : Int) - 16).natAbs ≤ 16 := by omega
    have yb : (((i % 33 : Nat) : Int) - 16).natAbs ≤ 16 := by omega
    have go : ∀ L' t', gz_Se K (fun l => gz_S i (fun i => gz_S 33 (fun k => gz_pt (gz_Sp (gz_B a p q b s c)) l (((i / 33 : Nat) : Int) - 16) (((i % 33 : Nat) : Int) - 16) ((k : Int) - 16))) + gz_S 33 (fun k => gz_pt (gz_Sp (gz_B a p q b s c)) l (((i / 33 : Nat) : Int) - 16) (((i % 33 : Nat) : Int) - 16) ((k : Int) - 16))) L' t' →
        wY_findShortest_184 post (gy_sv a) (gy_sv b) (gy_sv c) (gz_i p) (gz_i q) (gz_i s) m (nI (i + 1)) (nI n) (nI t') (gz_i L') D := fun L' t' hS' => K2 (L', t') hS'
    refine br_f (nI_ge (b := 1089) hi (by decide)) ⟨d33, nm_r ex ⟨d33, nm_r ey ?_⟩⟩
    generalize ((i / 33 : Nat) : Int) - 16 = x at *
    generalize ((i % 33 : Nat) : Int) - 16 = y at *
    have hin : ∀ z, gz_Sp (gz_B a p q b s c) (x, y, z) ↔ a ∣ x ∧ b ∣ y - x.tdiv a * p ∧ c ∣ z - x.tdiv a * q - (y - x.tdiv a * p).tdiv b * s := fun z => gz_in hZ
    refine gy_on (st := 0) (by omega) (by decide) g1 (by omega) (fun hd => br_f (by decide) ?_) (fun hd => br_t rfl (nm_r (nI_1 i) (go _ _ (gz_SeZ hr (fun z hm => hd (by rw [Int.sub_zero]; exact ((hin z).1 hm).1))))))
    rw [Int.sub_zero] at hd
    have t0 : (x.tdiv a).natAbs ≤ x.natAbs := by rw [gz_e2]; exact Nat.div_le_self _ _
    have m1 := gz_pm (show (x.tdiv a).natAbs ≤ 16 by omega) k4
    have m2 := gz_pm (show (x.tdiv a).natAbs ≤ 16 by omega) k5
    have go2 : wY_findShortest_237 post (wY_findShortest_184 post (gy_sv a) (gy_sv b) (gy_sv c) (gz_i p) (gz_i q) (gz_i s) m) (gy_sv a) (gy_sv b) (gy_sv c) (gz_i p) (gz_i q) (gz_i s) (nI i) (gz_i x) (gz_i y) (gz_i (x.tdiv a)) (nI n) (nI r.2) (gz_i r.1) D := by
      unfold wY_findShortest_237
      rw [gz_im]
      refine gy_on (by omega) (by omega) g2 (by omega) (fun hd2 => br_f (by decide) ?_) (fun hd2 => br_t rfl (nm_r (nI_1 i) (go _ _ (gz_SeZ hr (fun z hm => hd2 ((hin z).1 hm).2.1)))))
      have yb1 : (y - x.tdiv a * p).natAbs ≤ 2608 := by
        generalize x.tdiv a * p = u at *
        omega
      have t1 : ((y - x.tdiv a * p).tdiv b).natAbs ≤ (y - x.tdiv a * p).natAbs := by rw [gz_e2]; exact Nat.div_le_self _ _
      have m3 := gz_pm (show ((y - x.tdiv a * p).tdiv b).natAbs ≤ 2608 by omega) k6
      have go3 : wY_findShortest_274 post (wY_findShortest_184 post (gy_sv a) (gy_sv b) (gy_sv c) (gz_i p) (gz_i q) (gz_i s) m) (gy_sv a) (gy_sv b) (gy_sv c) (gz_i p) (gz_i q) (gz_i s) (nI i) (gz_i x) (gz_i y) (gz_i (x.tdiv a)) (gz_i ((y - x.tdiv a * p).tdiv b)) (nI n) (nI r.2) (gz_i r.1) D := by
        unfold wY_findShortest_274
        rw [gz_im, gz_im, gz_ia]
        refine gy_nl (T := gz_Sp (gz_B a p q b s c)) hK xb yb ?_ g3 k3 (fun z => ?_) hr (fun L' t' hS' => nm_r (nI_1 i) (go L' t' hS'))
        · generalize x.tdiv a * q = u1 at *
          generalize (y - x.tdiv a * p).tdiv b * s = u2 at *
          omega
        · rw [hin z]
          have e : z - x.tdiv a * q - (y - x.tdiv a * p).tdiv b * s = z - (x.tdiv a * q + (y - x.tdiv a * p).tdiv b * s) := by omega
          rw [e]
          exact ⟨fun h => h.2.2, fun h => ⟨hd, hd2, h⟩⟩
      by_cases eb : b = 0
      · rw [(gy_sv0 (e := 0) eb).1] at go3 ⊢
        rw [eb, Int.tdiv_zero] at go3
        exact br_t rfl go3
      · rw [(gy_sv1 (e := 0) eb).1] at go3 ⊢
        refine gz_be b (-1000000) (fun e2 => absurd e2 (by omega)) (fun _ => ⟨fun e2 => eb ((gz_iE (b := 0)).1 e2), ?_⟩)
        rw [gz_is, gz_iD (a := y - x.tdiv a * p) (b := b)]
        exact go3
    by_cases ea : a = 0
    · rw [(gy_sv0 (e := 0) ea).1] at go2 ⊢
      rw [ea, Int.tdiv_zero] at go2
      exact br_t rfl go2
    · rw [(gy_sv1 (e := 0) ea).1] at go2 ⊢
      refine gz_be a (-1000000) (fun e2 => absurd e2 (by omega)) (fun _ => ⟨fun e2 => ea ((gz_iE (b := 0)).1 e2), ?_⟩)
      rw [gz_iD (a := x) (b := a)]
      exact go2
end
