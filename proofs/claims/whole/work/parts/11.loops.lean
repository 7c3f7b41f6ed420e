/-! Euclid's loop with a limit of 1000: it ends by itself -/
theorem gz_euK {σ : Type} (W : Nat → Nat → σ → Prop) (B R : σ → Nat) (I : σ → Prop)
    (hx : ∀ n i s, i ≤ 1000 → I s → R s = 0 → W (n + 1) i s)
    (hs : ∀ n i s, i < 1000 → I s → R s ≠ 0 → ∃ s', I s' ∧ B s' = R s ∧ R s' = B s % R s ∧ (W n (i + 1) s' → W (n + 1) i s)) :
    ∀ k i s, I s → R s ≤ B s → B s * R s < 2 ^ k → i + k ≤ 1000 → W (k + 1) i s := by
  intro k
  induction k with
  | zero =>
    intro i s hI hle hp hi
    refine hx 0 i s (by omega) hI ?_
    by_cases h : R s = 0
    · exact h
    · have h2 := Nat.mul_le_mul (show 1 ≤ B s by omega) (show 1 ≤ R s by omega)
      omega
  | succ k ih =>
    intro i s hI hle hp hi
    by_cases h : R s = 0
    · exact hx (k + 1) i s (by omega) hI h
    · obtain ⟨s', hI', hB, hR, hW⟩ := hs (k + 1) i s (by omega) hI h
      refine hW (ih (i + 1) s' hI' ?_ ?_ (by omega))
      · rw [hB, hR]
        exact Nat.le_of_lt (Nat.mod_lt _ (by omega))
      · rw [hB, hR]
        have h3 := gz_e3 h hle
        rw [Nat.pow_succ] at hp
        omega
theorem gz_euG {σ : Type} (W : Nat → Nat → σ → Prop) (B R : σ → Nat) (I : σ → Prop)
    (hx : ∀ n i s, i ≤ 1000 → I s → R s = 0 → W (n + 1) i s)
    (hs : ∀ n i s, i < 1000 → I s → R s ≠ 0 → ∃ s', I s' ∧ B s' = R s ∧ R s' = B s % R s ∧ (W n (i + 1) s' → W (n + 1) i s))
    (s : σ) (hI : I s) (hB : B s < 4294967296) (hR : R s < 4294967296) : ∃ n, W n 0 s := by
  have hp : ∀ x y : Nat, x < 4294967296 → y < 4294967296 → x * y < 2 ^ 64 := by
    intro x y h1 h2
    have h3 := Nat.mul_lt_mul_of_lt_of_lt h1 h2
    omega
  by_cases h : R s ≤ B s
  · exact ⟨65, gz_euK W B R I hx hs 64 0 s hI h (hp _ _ hB hR) (by omega)⟩
  · obtain ⟨s', hI', hB', hR', hW⟩ := hs 65 0 s (by omega) hI (by omega)
    refine ⟨66, hW (gz_euK W B R I hx hs 64 1 s' hI' ?_ ?_ (by omega))⟩
    · rw [hB', hR']
      exact Nat.le_of_lt (Nat.mod_lt _ (by omega))
    · rw [hB', hR']
      refine hp _ _ hR ?_
      have := Nat.mod_lt (B s) (show 0 < R s by omega)
      omega
theorem gz_gst (g h : Nat) : Nat.gcd h (g % h) = Nat.gcd g h := by
  rw [Nat.gcd_comm g h, Nat.gcd_rec h g, Nat.gcd_comm]
