/-! the least multiple, place by place; projections; corners; the rank -/
theorem gz_adsm (u g : gz_V) (t i : Int) : gz_sm t (gz_ad u i g) = gz_ad (gz_sm t u) (t * i) g := by
  apply gz_ext <;> simp only [gz_ad, gz_sm] <;> grind
theorem gz_SpP {H : gz_V → Prop} {g w : gz_V} : gz_Sp (gz_pl H g) w ↔ ∃ i : Int, gz_Sp H (gz_ad w (-i) g) := by
  constructor
  · intro h
    refine h (fun w => ∃ i : Int, gz_Sp H (gz_ad w (-i) g)) ⟨0, ?_⟩ ?_
    · have e : gz_ad (0, 0, 0) (-0) g = (0, 0, 0) := gz_ext (by simp [gz_ad]) (by simp [gz_ad]) (by simp [gz_ad])
      rw [e]
      exact gz_Sp0
    · intro u k t ⟨i, hi⟩ hk
      rcases hk with hk | rfl
      · refine ⟨i, ?_⟩
        have e : gz_ad (gz_ad u t k) (-i) g = gz_ad (gz_ad u (-i) g) t k := by apply gz_ext <;> simp only [gz_ad] <;> grind
        rw [e]
        exact gz_SpA t hi hk
      · refine ⟨i + t, ?_⟩
        have e : gz_ad (gz_ad u t k) (-(i + t)) k = gz_ad u (-i) k := by apply gz_ext <;> simp only [gz_ad] <;> grind
        rw [e]
        exact hi
  · intro ⟨i, hi⟩
    refine gz_SpV i (gz_SpM (fun u hu => gz_SpG (Or.inl hu)) hi) (gz_SpG (Or.inr rfl)) ?_ ?_ ?_ <;> simp only [gz_ad] <;> grind
theorem gz_lf {d x f : Int} (hf : 0 < f) (h1 : d ∣ f * x) (h2 : ∀ e : Int, 0 < e → e < f → ¬ d ∣ e * x) (t : Int) : d ∣ t * x ↔ f ∣ t := by
  constructor
  · intro h
    have r0 := Int.emod_nonneg t (b := f) (by omega)
    have r1 := Int.emod_lt_of_pos t hf
    have e : t % f * x = t * x + -(t / f) * (f * x) := by
      rw [Int.emod_def]
      grind
    have h3 : d ∣ t % f * x := by
      rw [e]
      exact Int.dvd_add h (Int.dvd_mul_of_dvd_right h1)
    by_cases hz : t % f = 0
    · exact Int.dvd_of_emod_eq_zero hz
    · exact absurd h3 (h2 _ (by omega) r1)
  · intro ⟨k, hk⟩
    obtain ⟨l, hl⟩ := h1
    refine ⟨k * l, ?_⟩
    subst hk
    grind
/-- m v0 times anything is of G just as the same multiple of v is of H -/
def gz_Om (G : gz_V → Prop) (v0 : gz_V) (m : Int) (H : gz_V → Prop) (v : gz_V) : Prop :=
  ∀ t : Int, gz_Sp G (gz_sm t v0) ↔ ∃ k : Int, t = k * m ∧ gz_Sp H (gz_sm k v)
theorem gz_Om0 (G : gz_V → Prop) (v : gz_V) : gz_Om G v 1 G v := fun t =>
  ⟨fun h => ⟨t, by omega, h⟩, fun ⟨k, e, h⟩ => by
    have e2 : k = t := by omega
    rw [← e2]; exact h⟩
/-- the point has 0 at this place -/
theorem gz_Omz {G H : gz_V → Prop} {v0 v g : gz_V} {m : Int} (f : gz_V → Int) (hf : ∀ u w t, f (gz_ad u t w) = f u + t * f w) (hm : ∀ t u, f (gz_sm t u) = t * f u)
    (hH : ∀ u, gz_Sp H u → f u = 0) (hg : f g = 0 → g = (0, 0, 0)) (h : gz_Om G v0 m (gz_pl H g) v) (hv : f v = 0) : gz_Om G v0 m H v := by
  intro t
  refine (h t).trans ⟨fun ⟨k, e, hk⟩ => ⟨k, e, ?_⟩, fun ⟨k, e, hk⟩ => ⟨k, e, gz_SpM (fun u hu => gz_SpG (Or.inl hu)) hk⟩⟩
  obtain ⟨i, hi⟩ := gz_SpP.1 hk
  have h1 := hH _ hi
  rw [hf, hm, hv] at h1
  have h2 : i * f g = 0 := by
    rw [Int.mul_zero, Int.neg_mul] at h1
    omega
  have h3 : gz_ad (gz_sm k v) (-i) g = gz_sm k v := by
    rcases Int.mul_eq_zero.1 h2 with hi0 | hg0
    · rw [hi0]
      apply gz_ext <;> simp [gz_ad]
    · rw [hg hg0]
      apply gz_ext <;> simp [gz_ad]
  rw [h3] at hi
  exact hi
/-- no multiple -/
theorem gz_Omn {G H : gz_V → Prop} {v0 v g : gz_V} {m : Int} (f : gz_V → Int) (hf : ∀ u w t, f (gz_ad u t w) = f u + t * f w) (hm : ∀ t u, f (gz_sm t u) = t * f u)
    (hH : ∀ u, gz_Sp H u → f u = 0) (hg : f g = 0) (h : gz_Om G v0 m (gz_pl H g) v) (hv : f v ≠ 0) : gz_Or G v0 0 := by
  refine ⟨Int.le_refl 0, fun t => ⟨fun ht => ?_, fun ht => ?_⟩⟩
  · obtain ⟨k, e, hk⟩ := (h t).1 ht
    obtain ⟨i, hi⟩ := gz_SpP.1 hk
    have h1 := hH _ hi
    rw [hf, hm, hg, Int.mul_zero, Int.add_zero] at h1
    rcases Int.mul_eq_zero.1 h1 with h2 | h2
    · rw [e, h2, Int.zero_mul]
      exact Int.dvd_refl 0
    · exact absurd h2 hv
  · rw [Int.zero_dvd.1 ht]
    have e : gz_sm 0 v0 = (0, 0, 0) := gz_ext (by simp [gz_sm]) (by simp [gz_sm]) (by simp [gz_sm])
    rw [e]
    exact gz_Sp0
/-- the factor x, then k times the basis row is taken away -/
theorem gz_Oms {G H : gz_V → Prop} {v0 v g : gz_V} {m x k : Int} (f : gz_V → Int) (hf : ∀ u w t, f (gz_ad u t w) = f u + t * f w) (hm : ∀ t u, f (gz_sm t u) = t * f u)
    (hH : ∀ u, gz_Sp H u → f u = 0) (hg : f g ≠ 0) (h : gz_Om G v0 m (gz_pl H g) v)
    (hx : 0 < x) (h1 : x * f v = k * f g) (h2 : ∀ e : Int, 0 < e → e < x → ¬ f g ∣ e * f v) : gz_Om G v0 (m * x) H (gz_ad (gz_sm x v) (-k) g) := by
  have hd : f g ∣ x * f v := ⟨k, by rw [h1, Int.mul_comm]⟩
  intro t
  refine (h t).trans ⟨fun ⟨l, e, hl⟩ => ?_, fun ⟨l, e, hl⟩ => ?_⟩
  · obtain ⟨i, hi⟩ := gz_SpP.1 hl
    have h3 := hH _ hi
    rw [hf, hm] at h3
    have h4 : f g ∣ l * f v := ⟨i, by rw [Int.mul_comm (f g) i]; rw [Int.neg_mul] at h3; omega⟩
    obtain ⟨y, hy⟩ := (gz_lf hx hd h2 l).1 h4
    refine ⟨y, by rw [e, hy]; grind, ?_⟩
    have h5 : i * f g = (y * k) * f g := by
      have h6 : l * f v = y * (x * f v) := by rw [hy]; grind
      rw [h1] at h6
      rw [Int.neg_mul] at h3
      have h7 : y * (k * f g) = y * k * f g := by grind
      omega
    have h8 : i = y * k := Int.eq_of_mul_eq_mul_right hg h5
    have e2 : gz_sm y (gz_ad (gz_sm x v) (-k) g) = gz_ad (gz_sm l v) (-i) g := by
      rw [h8, hy]
      apply gz_ext <;> simp only [gz_ad, gz_sm] <;> grind
    rw [e2]
    exact hi
  · refine ⟨l * x, by rw [e]; grind, gz_SpP.2 ⟨l * k, ?_⟩⟩
    have e2 : gz_ad (gz_sm (l * x) v) (-(l * k)) g = gz_sm l (gz_ad (gz_sm x v) (-k) g) := by
      apply gz_ext <;> simp only [gz_ad, gz_sm] <;> grind
    rw [e2]
    exact hl
theorem gz_Om3 {G H : gz_V → Prop} {v0 v : gz_V} {m : Int} (h : gz_Om G v0 m H v) (hm : 0 ≤ m) (hv : v = (0, 0, 0)) : gz_Or G v0 m := by
  refine ⟨hm, fun t => (h t).trans ⟨fun ⟨k, e, _⟩ => ⟨k, by rw [e, Int.mul_comm]⟩, fun ⟨k, e⟩ => ⟨k, by rw [e, Int.mul_comm], ?_⟩⟩⟩
  rw [hv]
  have e : gz_sm k (0, 0, 0) = (0, 0, 0) := gz_ext (by simp [gz_sm]) (by simp [gz_sm]) (by simp [gz_sm])
  rw [e]
  exact gz_Sp0
/-- the basis as rows added one by one -/
def gz_N : gz_V → Prop := fun _ => False
theorem gz_BP {a p q b s c : Int} (v : gz_V) : gz_Sp (gz_B a p q b s c) v ↔ gz_Sp (gz_pl (gz_pl (gz_pl gz_N (0, 0, c)) (0, b, s)) (a, p, q)) v := by
  apply gz_SpE
  · intro g hg
    rcases hg with rfl | rfl | rfl
    · exact gz_SpG (Or.inr rfl)
    · exact gz_SpG (Or.inl (Or.inr rfl))
    · exact gz_SpG (Or.inl (Or.inl (Or.inr rfl)))
  · intro g hg
    rcases hg with ((hg | rfl) | rfl) | rfl
    · exact absurd hg id
    · exact gz_SpG (Or.inr (Or.inr rfl))
    · exact gz_SpG (Or.inr (Or.inl rfl))
    · exact gz_SpG (Or.inl rfl)
theorem gz_f1 {b s c : Int} (u : gz_V) (h : gz_Sp (gz_pl (gz_pl gz_N (0, 0, c)) (0, b, s)) u) : u.1 = 0 := by
  refine h (fun u => u.1 = 0) rfl ?_
  intro u g t hu hg
  rcases hg with (hg | rfl) | rfl
  · exact absurd hg id
  · simp only [gz_ad, hu]; omega
  · simp only [gz_ad, hu]; omega
theorem gz_f2 {c : Int} (u : gz_V) (h : gz_Sp (gz_pl gz_N (0, 0, c)) u) : u.2.1 = 0 := by
  refine h (fun u => u.2.1 = 0) rfl ?_
  intro u g t hu hg
  rcases hg with hg | rfl
  · exact absurd hg id
  · simp only [gz_ad, hu]; omega
theorem gz_f3 (u : gz_V) (h : gz_Sp gz_N u) : u.2.2 = 0 := by
  refine h (fun u => u.2.2 = 0) rfl ?_
  intro u g t hu hg
  exact absurd hg id
