/-! the common divisor of two ints, on both sides -/
theorem gz_ab1 {a : Int} (h : 0 ≤ a) : gz_i a = nI a.natAbs := by
  rw [← gz_iN]
  exact gz_iq (by omega)
theorem gz_ab2 {a : Int} (h : a < 0) : -gz_i a = nI a.natAbs := by
  rw [gz_ing, ← gz_iN]
  exact gz_iq (by omega)
theorem gx_g25 {post : Int32 → Prop} (g h : Nat) (hg : g < 2147483648) (hh : h < 2147483648) (hp : post (nI (Nat.gcd g h))) : ∃ n, wX_gcd_25 post n (nI g) (nI h) 0 := by
  refine gz_euG (σ := Nat × Nat) (fun n i s => wX_gcd_25 post n (nI s.1) (nI s.2) (nI i)) (fun s => s.1) (fun s => s.2)
    (fun s => s.1 < 2147483648 ∧ s.2 < 2147483648 ∧ Nat.gcd s.1 s.2 = Nat.gcd g h) ?_ ?_ (g, h) ⟨hg, hh, rfl⟩ (show g < 4294967296 by omega) (show h < 4294967296 by omega)
  · intro n i s hi ⟨h1, h2, h3⟩ h0
    rw [h0, Nat.gcd_zero_right] at h3
    have hq : post (nI s.1) := by rw [h3]; exact hp
    refine pk_le 1000 i (fun _ => hq) (fun _ => br_t ?_ hq)
    rw [h0]
    rfl
  · intro n i s hi ⟨h1, h2, h3⟩ h0
    have hm := Nat.mod_lt s.1 (show 0 < s.2 by omega)
    refine ⟨(s.2, s.1 % s.2), ⟨h2, ?_, ?_⟩, rfl, rfl, fun hW => ?_⟩
    · show s.1 % s.2 < 2147483648
      omega
    · exact (gz_gst s.1 s.2).trans h3
    · have hne : ¬ nI s.2 = 0 := nI_ne0 (by omega) h2
      exact br_f (nI_ge (b := 1000) hi (by decide)) (br_f hne ⟨hne, nm_r (pk_rem h1 (by omega) h2) (nm_r (nI_1 i) hW)⟩)
theorem gx_gcd {post : Int32 → Prop} {a b : Int} (ha : a.natAbs < 2147483648) (hb : b.natAbs < 2147483648) (h : post (gz_i (Int.gcd a b))) : wpX_gcd post (gz_i a) (gz_i b) := by
  have hq : post (nI (Nat.gcd a.natAbs b.natAbs)) := by rw [← gz_iN]; exact h
  have k : ∀ z0 : Int32, z0 = nI a.natAbs → wX_gcd_10 post (gz_i b) z0 := by
    intro z0 e
    rw [e]
    refine gz_bl 0 b (fun h0 => ?_) (fun h0 => ?_)
    · rw [gz_ab1 h0]
      exact gx_g25 _ _ ha hb hq
    · exact nm_r (gz_ab2 h0) (gx_g25 _ _ ha hb hq)
  refine gz_bl 0 a (fun h0 => k _ (gz_ab1 h0)) (fun h0 => k _ (gz_ab2 h0))
theorem gy_g23 {post : Int32 → Prop} {fc ff fl : Int32} {D : Nat → Int32} (g h : Nat) (hg : g < 2147483648) (hh : h < 2147483648) (hp : post (nI (Nat.gcd g h))) : ∃ n, wY_gcd_23 post fc ff fl D n (nI g) (nI h) := by
  refine gz_euG (σ := Nat × Nat) (fun n i s => wY_gcd_23 post fc ff fl D n (nI s.1) (nI s.2)) (fun s => s.1) (fun s => s.2)
    (fun s => s.1 < 2147483648 ∧ s.2 < 2147483648 ∧ Nat.gcd s.1 s.2 = Nat.gcd g h) ?_ ?_ (g, h) ⟨hg, hh, rfl⟩ (show g < 4294967296 by omega) (show h < 4294967296 by omega)
  · intro n i s hi ⟨h1, h2, h3⟩ h0
    rw [h0, Nat.gcd_zero_right] at h3
    have hq : post (nI s.1) := by rw [h3]; exact hp
    refine br_t ?_ hq
    rw [h0]
    rfl
  · intro n i s hi ⟨h1, h2, h3⟩ h0
    have hm := Nat.mod_lt s.1 (show 0 < s.2 by omega)
    refine ⟨(s.2, s.1 % s.2), ⟨h2, ?_, ?_⟩, rfl, rfl, fun hW => ?_⟩
    · show s.1 % s.2 < 2147483648
      omega
    · exact (gz_gst s.1 s.2).trans h3
    · have hne : ¬ nI s.2 = 0 := nI_ne0 (by omega) h2
      exact br_f hne ⟨hne, nm_r (pk_rem h1 (by omega) h2) hW⟩
theorem gy_gcd {post : Int32 → Prop} {fc ff fl : Int32} {D : Nat → Int32} {a b : Int} (ha : a.natAbs < 2147483648) (hb : b.natAbs < 2147483648) (h : post (gz_i (Int.gcd a b))) :
    wpY_gcd post (fc, ff, fl, D) (gz_i a) (gz_i b) := by
  have hq : post (nI (Nat.gcd a.natAbs b.natAbs)) := by rw [← gz_iN]; exact h
  have k : ∀ z0 : Int32, z0 = nI a.natAbs → wY_gcd_10 post (gz_i b) z0 fc ff fl D := by
    intro z0 e
    rw [e]
    refine gz_bl 0 b (fun h0 => ?_) (fun h0 => ?_)
    · rw [gz_ab1 h0]
      exact gy_g23 _ _ ha hb hq
    · exact nm_r (gz_ab2 h0) (gy_g23 _ _ ha hb hq)
  refine gz_bl 0 a (fun h0 => k _ (gz_ab1 h0)) (fun h0 => k _ (gz_ab2 h0))
