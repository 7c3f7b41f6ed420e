/-! Y: minors and their common divisors -/
def gz_W (D : Nat → Int32) : Nat → Int := fun j => (D j).toInt
theorem gz_WD (D : Nat → Int32) (j : Nat) : D j = gz_i (gz_W D j) := (gz_iX (D j)).symm
def gz_bit (m : Int32) (r : Nat) : Prop := ((m >>> (nI r &&& 31)) &&& 1) = 1
theorem gy_mi {post : Int32 → Prop} {fc ff fl : Int32} {D : Nat → Int32} (r s c d : Nat) (hr : r < 5) (hs : s < 5) (hc : c < 3) (hd : d < 3)
    (h : post (gz_i (gz_W D (3 * r + c) * gz_W D (3 * s + d) - gz_W D (3 * r + d) * gz_W D (3 * s + c)))) : wpY_minor post (fc, ff, fl, D) (nI r) (nI s) (nI c) (nI d) := by
  refine And.intro (gx_vi3 (by omega) (by omega)) ⟨gx_vi3 (by omega) (by omega), gx_vi3 (by omega) (by omega), gx_vi3 (by omega) (by omega), ?_⟩
  rw [gx_ad3 (a := r) (b := c) (by omega), gx_ad3 (a := s) (b := d) (by omega), gx_ad3 (a := r) (b := d) (by omega), gx_ad3 (a := s) (b := c) (by omega), gz_WD D (3 * r + c), gz_WD D (3 * s + d), gz_WD D (3 * r + d), gz_WD D (3 * s + c), gz_im, gz_im, gz_is]
  exact h
theorem gy_xy {post : Int32 → Prop} {fc ff fl : Int32} {D : Nat → Int32} {r s : Nat} (hr : r < 5) (hs : s < 5) (h : post (gz_i (gz_xy (gz_ro (gz_W D) r) (gz_ro (gz_W D) s)))) : wpY_minor post (fc, ff, fl, D) (nI r) (nI s) 0 1 :=
  gy_mi r s 0 1 hr hs (by decide) (by decide) h
theorem gy_xz {post : Int32 → Prop} {fc ff fl : Int32} {D : Nat → Int32} {r s : Nat} (hr : r < 5) (hs : s < 5) (h : post (gz_i (gz_xz (gz_ro (gz_W D) r) (gz_ro (gz_W D) s)))) : wpY_minor post (fc, ff, fl, D) (nI r) (nI s) 0 2 :=
  gy_mi r s 0 2 hr hs (by decide) (by decide) h
theorem gy_yz {post : Int32 → Prop} {fc ff fl : Int32} {D : Nat → Int32} {r s : Nat} (hr : r < 5) (hs : s < 5) (h : post (gz_i (gz_yz (gz_ro (gz_W D) r) (gz_ro (gz_W D) s)))) : wpY_minor post (fc, ff, fl, D) (nI r) (nI s) 1 2 :=
  gy_mi r s 1 2 hr hs (by decide) (by decide) h
theorem gx_cl3 {a : Nat} (h : 3 * a < 2147483648) : (3 * nI a).toNatClampNeg = 3 * a := by
  rw [gx_3c]
  exact gx_cl h
theorem gx_v3 {a N : Nat} (h : 3 * a < N) (hN : N < 2147483648) : vp_in (3 * nI a) N := by
  rw [gx_3c]
  exact vp_in_nI h hN
theorem gx_ad31 {a : Nat} (h : 3 * a + 1 < 2147483648) : (3 * nI a + 1).toNatClampNeg = 3 * a + 1 := gx_ad3 (b := 1) h
theorem gx_ad32 {a : Nat} (h : 3 * a + 2 < 2147483648) : (3 * nI a + 2).toNatClampNeg = 3 * a + 2 := gx_ad3 (b := 2) h
theorem gx_vi31 {a N : Nat} (h : 3 * a + 1 < N) (hN : N < 2147483648) : vp_in (3 * nI a + 1) N := gx_vi3 (b := 1) h hN
theorem gx_vi32 {a N : Nat} (h : 3 * a + 2 < N) (hN : N < 2147483648) : vp_in (3 * nI a + 2) N := gx_vi3 (b := 2) h hN
theorem gy_dt {post : Int32 → Prop} {fc ff fl : Int32} {D : Nat → Int32} {r s t : Nat} (hr : r < 5) (hs : s < 5) (ht : t < 5)
    (h : post (gz_i (gz_dt (gz_ro (gz_W D) r) (gz_ro (gz_W D) s) (gz_ro (gz_W D) t)))) : wpY_determinant post (fc, ff, fl, D) (nI r) (nI s) (nI t) := by
  unfold wpY_determinant
  dsimp only
  refine gy_yz hs ht (gy_xz hs ht (gy_xy hs ht ?_))
  refine ⟨gx_v3 (by omega) (by omega), gx_vi31 (by omega) (by omega), gx_vi32 (by omega) (by omega), ?_⟩
  rw [gx_cl3 (a := r) (by omega), gx_ad31 (a := r) (by omega), gx_ad32 (a := r) (by omega), gz_WD D (3 * r), gz_WD D (3 * r + 1), gz_WD D (3 * r + 2), gz_im, gz_im, gz_im, gz_is, gz_ia]
  exact h
/-- small rows: 9 in the first four, 5000 in the last -/
def gy_sm (m : Int32) (D : Nat → Int32) : Prop := ∀ r, r < 5 → gz_bit m r →
  (gz_ro (gz_W D) r).1.natAbs ≤ 5000 ∧ (gz_ro (gz_W D) r).2.1.natAbs ≤ 5000 ∧ (gz_ro (gz_W D) r).2.2.natAbs ≤ 5000 ∧
  (r < 4 → (gz_ro (gz_W D) r).1.natAbs ≤ 9 ∧ (gz_ro (gz_W D) r).2.1.natAbs ≤ 9 ∧ (gz_ro (gz_W D) r).2.2.natAbs ≤ 9)
theorem gy_s2 {m : Int32} {D : Nat → Int32} {r s : Nat} (h : gy_sm m D) (hr : r < 5) (hs : s < r) (br : gz_bit m r) (bs : gz_bit m s) :
    (gz_xy (gz_ro (gz_W D) r) (gz_ro (gz_W D) s)).natAbs ≤ 90000 ∧ (gz_xz (gz_ro (gz_W D) r) (gz_ro (gz_W D) s)).natAbs ≤ 90000 ∧ (gz_yz (gz_ro (gz_W D) r) (gz_ro (gz_W D) s)).natAbs ≤ 90000 := by
  obtain ⟨u1, u2, u3, _⟩ := h r hr br
  obtain ⟨_, _, _, v⟩ := h s (by omega) bs
  obtain ⟨v1, v2, v3⟩ := v (by omega)
  exact ⟨gz_m2 u1 v2 u2 v1, gz_m2 u1 v3 u3 v1, gz_m2 u2 v3 u3 v2⟩
theorem gy_s3 {m : Int32} {D : Nat → Int32} {r s t : Nat} (h : gy_sm m D) (hr : r < 5) (hs : s < r) (ht : t < s) (br : gz_bit m r) (bs : gz_bit m s) (bt : gz_bit m t) :
    (gz_dt (gz_ro (gz_W D) r) (gz_ro (gz_W D) s) (gz_ro (gz_W D) t)).natAbs ≤ 2430000 := by
  obtain ⟨u1, u2, u3, _⟩ := h r hr br
  obtain ⟨_, _, _, v⟩ := h s (by omega) bs
  obtain ⟨v1, v2, v3⟩ := v (by omega)
  obtain ⟨_, _, _, w⟩ := h t (by omega) bt
  obtain ⟨w1, w2, w3⟩ := w (by omega)
  have a1 : (gz_xy (gz_ro (gz_W D) s) (gz_ro (gz_W D) t)).natAbs ≤ 162 := gz_m2 v1 w2 v2 w1
  have a2 : (gz_xz (gz_ro (gz_W D) s) (gz_ro (gz_W D) t)).natAbs ≤ 162 := gz_m2 v1 w3 v3 w1
  have a3 : (gz_yz (gz_ro (gz_W D) s) (gz_ro (gz_W D) t)).natAbs ≤ 162 := gz_m2 v2 w3 v3 w2
  exact gz_d3 u1 u2 u3 a3 a2 a1
theorem gz_nng {a b : Int} : ((Int.gcd a b : Int)).natAbs = Int.gcd a b := Int.natAbs_natCast _
theorem gz_dd (d : Int) : d ∣ 0 ↔ True := ⟨fun _ => trivial, fun _ => Int.dvd_zero d⟩
theorem gy_pd {post : Int32 → Prop} {fc ff fl m : Int32} {D : Nat → Int32} {r s cols : Nat} (hsm : gy_sm m D) (hr : r < 5) (hs : s < r) (br : gz_bit m r) (bs : gz_bit m s) (hc : 1 ≤ cols) (hc3 : cols ≤ 3)
    (h : ∀ g : Int, g.natAbs ≤ 90000 → (∀ d, d ∣ g ↔ d ∣ gz_xy (gz_pj cols (gz_ro (gz_W D) r)) (gz_pj cols (gz_ro (gz_W D) s)) ∧ d ∣ gz_xz (gz_pj cols (gz_ro (gz_W D) r)) (gz_pj cols (gz_ro (gz_W D) s)) ∧ d ∣ gz_yz (gz_pj cols (gz_ro (gz_W D) r)) (gz_pj cols (gz_ro (gz_W D) s))) → post (gz_i g)) :
    wpY_pairDivisor post (fc, ff, fl, D) (nI r) (nI s) (nI cols) := by
  obtain ⟨a1, a2, a3⟩ := gy_s2 hsm hr hs br bs
  have h5 : s < 5 := by omega
  have hcs : cols = 1 ∨ cols = 2 ∨ cols = 3 := by omega
  rcases hcs with rfl | rfl | rfl
  · refine br_t (by decide) (br_t (by decide) (h 0 (by decide) (fun d => ?_)))
    simp [gz_xy, gz_xz, gz_yz, gz_pj]
  · refine br_f (by decide) (gy_xy hr h5 (br_t (by decide) (h _ a1 (fun d => ?_))))
    simp [gz_xy, gz_xz, gz_yz, gz_pj]
  · rw [gz_pj3, gz_pj3] at h
    refine br_f (by decide) (gy_xy hr h5 (br_f (by decide) (gy_xz hr h5 (gy_yz hr h5 (gy_gcd (by omega) (by omega) (gy_gcd ?_ (by omega) (h _ ?_ (fun d => ?_))))))))
    · rw [gz_nng]
      have := gz_gle a1 a2
      omega
    · rw [gz_nng]
      exact gz_gle (by rw [gz_nng]; exact gz_gle a1 a2) a3
    · rw [Int.dvd_coe_gcd_iff, Int.dvd_coe_gcd_iff, and_assoc]
theorem gy_td {post : Int32 → Prop} {fc ff fl m : Int32} {D : Nat → Int32} {r s : Nat} (hsm : gy_sm m D) (hr : r < 5) (hs : s < r) (br : gz_bit m r) (bs : gz_bit m s)
    (h : ∀ g : Int, g.natAbs ≤ 2430000 → (∀ d, d ∣ g ↔ ∀ t, t < s → gz_bit m t → d ∣ gz_dt (gz_ro (gz_W D) r) (gz_ro (gz_W D) s) (gz_ro (gz_W D) t)) → post (gz_i g)) :
    wpY_tripleDivisor post (fc, ff, fl, D) (nI r) (nI s) m := by
  refine loop_0 (fun n i (g : Int) => wY_tripleDivisor_6 post (nI r) (nI s) m fc ff fl D n (gz_i g) (nI i))
    (fun i g => g.natAbs ≤ 2430000 ∧ ∀ d, d ∣ g ↔ ∀ t, t < i → gz_bit m t → d ∣ gz_dt (gz_ro (gz_W D) r) (gz_ro (gz_W D) s) (gz_ro (gz_W D) t)) s 0
    ⟨by decide, fun d => ⟨fun _ t ht => absurd ht (by omega), fun _ => Int.dvd_zero d⟩⟩ ?_ ?_
  · intro n g ⟨h1, h2⟩
    exact br_t (nI_le (Nat.le_refl s) (by omega)) (h g h1 h2)
  · intro n i g hi ⟨h1, h2⟩ K
    refine br_f (nI_ge hi (by omega)) (br_c (fun hb => ?_) (fun hb => ?_))
    · have a := gy_s3 hsm hr hs hi br bs hb
      refine gy_dt hr (by omega) (by omega) (gy_gcd (by omega) (by omega) (nm_r (nI_1 i) (K _ ⟨?_, fun d => ?_⟩)))
      · rw [gz_nng]
        exact gz_gle h1 a
      · rw [Int.dvd_coe_gcd_iff, h2]
        constructor
        · intro ⟨x1, x2⟩ t ht hbt
          by_cases e : t = i
          · subst e; exact x2
          · exact x1 t (by omega) hbt
        · intro x
          exact ⟨fun t ht hbt => x t (by omega) hbt, x i (by omega) hb⟩
    · refine nm_r (nI_1 i) (K g ⟨h1, fun d => (h2 d).trans ⟨fun x t ht hbt => ?_, fun x t ht hbt => x t (by omega) hbt⟩⟩)
      by_cases e : t = i
      · subst e; exact absurd hbt hb
      · exact x t (by omega) hbt
