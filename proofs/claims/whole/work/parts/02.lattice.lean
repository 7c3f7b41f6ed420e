/-! points, spans, minors, common divisors: pure, over Int -/
abbrev gz_V : Type := Int × Int × Int
def gz_ad (u : gz_V) (t : Int) (g : gz_V) : gz_V := (u.1 + t * g.1, u.2.1 + t * g.2.1, u.2.2 + t * g.2.2)
def gz_sm (t : Int) (g : gz_V) : gz_V := (t * g.1, t * g.2.1, t * g.2.2)
def gz_Sp (G : gz_V → Prop) (v : gz_V) : Prop :=
  ∀ S : gz_V → Prop, S (0, 0, 0) → (∀ u g t, S u → G g → S (gz_ad u t g)) → S v
theorem gz_ext {u v : gz_V} (h1 : u.1 = v.1) (h2 : u.2.1 = v.2.1) (h3 : u.2.2 = v.2.2) : u = v :=
  Prod.ext h1 (Prod.ext h2 h3)
theorem gz_Sp0 {G : gz_V → Prop} : gz_Sp G (0, 0, 0) := fun _ h _ => h
theorem gz_SpA {G : gz_V → Prop} {u g : gz_V} (t : Int) (h : gz_Sp G u) (hg : G g) : gz_Sp G (gz_ad u t g) :=
  fun S h0 hs => hs u g t (h S h0 hs) hg
theorem gz_SpG {G : gz_V → Prop} {g : gz_V} (hg : G g) : gz_Sp G g := by
  have h := gz_SpA 1 (gz_Sp0 (G := G)) hg
  have e : gz_ad (0, 0, 0) 1 g = g := gz_ext (by simp [gz_ad]) (by simp [gz_ad]) (by simp [gz_ad])
  rw [e] at h
  exact h
theorem gz_SpAd {G : gz_V → Prop} {u v : gz_V} (t : Int) (hu : gz_Sp G u) (hv : gz_Sp G v) : gz_Sp G (gz_ad u t v) := by
  refine hv (fun w => gz_Sp G (gz_ad u t w)) ?_ ?_
  · have e : gz_ad u t (0, 0, 0) = u := gz_ext (by simp [gz_ad]) (by simp [gz_ad]) (by simp [gz_ad])
    show gz_Sp G (gz_ad u t (0, 0, 0))
    rw [e]
    exact hu
  · intro w g s hw hg
    have e : gz_ad u t (gz_ad w s g) = gz_ad (gz_ad u t w) (t * s) g := by
      apply gz_ext <;> simp only [gz_ad] <;> grind
    show gz_Sp G (gz_ad u t (gz_ad w s g))
    rw [e]
    exact gz_SpA _ hw hg
theorem gz_SpM {G H : gz_V → Prop} (h : ∀ g, G g → gz_Sp H g) {v : gz_V} (hv : gz_Sp G v) : gz_Sp H v :=
  hv (gz_Sp H) gz_Sp0 (fun _ _ t hu hg => gz_SpAd t hu (h _ hg))
theorem gz_SpS {G : gz_V → Prop} {v : gz_V} (t : Int) (hv : gz_Sp G v) : gz_Sp G (gz_sm t v) := by
  have h := gz_SpAd t (gz_Sp0 (G := G)) hv
  have e : gz_ad (0, 0, 0) t v = gz_sm t v := gz_ext (by simp [gz_ad, gz_sm]) (by simp [gz_ad, gz_sm]) (by simp [gz_ad, gz_sm])
  rw [e] at h
  exact h
def gz_xy (u v : gz_V) : Int := u.1 * v.2.1 - u.2.1 * v.1
def gz_xz (u v : gz_V) : Int := u.1 * v.2.2 - u.2.2 * v.1
def gz_yz (u v : gz_V) : Int := u.2.1 * v.2.2 - u.2.2 * v.2.1
def gz_dt (u v w : gz_V) : Int := u.1 * gz_yz v w - u.2.1 * gz_xz v w + u.2.2 * gz_xy v w
def gz_M1 (G : gz_V → Prop) (I : Int → Prop) : Prop := ∀ u, G u → I u.1 ∧ I u.2.1 ∧ I u.2.2
def gz_M2 (G : gz_V → Prop) (I : Int → Prop) : Prop := ∀ u v, G u → G v → I (gz_xy u v) ∧ I (gz_xz u v) ∧ I (gz_yz u v)
def gz_M3 (G : gz_V → Prop) (I : Int → Prop) : Prop := ∀ u v w, G u → G v → G w → I (gz_dt u v w)
/-- all minors of size k lie in I -/
def gz_M (k : Nat) (G : gz_V → Prop) (I : Int → Prop) : Prop :=
  match k with
  | 0 => I 1
  | 1 => gz_M1 G I
  | 2 => gz_M2 G I
  | 3 => gz_M3 G I
  | _ => True
def gz_Id (I : Int → Prop) : Prop := I 0 ∧ ∀ a b t, I a → I b → I (a + t * b)
theorem gz_Idd (d : Int) : gz_Id (fun x => d ∣ x) :=
  ⟨Int.dvd_zero d, fun _ _ t ha hb => Int.dvd_add ha (Int.dvd_mul_of_dvd_right (b := t) hb)⟩
theorem gz_prin (I : Int → Prop) (hI : gz_Id I) : ∃ d, I d ∧ ∀ x, I x → d ∣ x := by
  have key : ∀ n : Nat, ∀ a : Int, a.natAbs ≤ n → a ≠ 0 → I a → ∃ d, I d ∧ ∀ x, I x → d ∣ x := by
    intro n
    induction n with
    | zero => intro a h h0; omega
    | succ n ih =>
      intro a ha h0 hIa
      by_cases hall : ∀ x, I x → a ∣ x
      · exact ⟨a, hIa, hall⟩
      · obtain ⟨x, hx⟩ := Classical.not_forall.mp hall
        obtain ⟨hxI, hxd⟩ := Classical.not_imp.mp hx
        have hr : I (x % a) := by
          have h := hI.2 x a (-(x / a)) hxI hIa
          have e : x + -(x / a) * a = x % a := by rw [Int.emod_def, Int.neg_mul, Int.mul_comm (x / a) a]; omega
          rw [e] at h
          exact h
        have hn : x % a ≠ 0 := fun h => hxd (Int.dvd_of_emod_eq_zero h)
        have h1 := Int.emod_nonneg x h0
        have h2 := Int.emod_lt x h0
        exact ih (x % a) (by omega) hn hr
  by_cases hz : ∃ a, a ≠ 0 ∧ I a
  · obtain ⟨a, h0, ha⟩ := hz
    exact key a.natAbs a (Nat.le_refl _) h0 ha
  · refine ⟨0, hI.1, fun x hx => ?_⟩
    by_cases h0 : x = 0
    · rw [h0]; exact Int.dvd_zero 0
    · exact absurd ⟨x, h0, hx⟩ hz
theorem gz_Mm {k : Nat} {G : gz_V → Prop} {I J : Int → Prop} (h : ∀ x, I x → J x) (H : gz_M k G I) : gz_M k G J := by
  match k, H with
  | 0, H => exact h 1 H
  | 1, H => exact fun u hu => ⟨h _ (H u hu).1, h _ (H u hu).2.1, h _ (H u hu).2.2⟩
  | 2, H => exact fun u v hu hv => ⟨h _ (H u v hu hv).1, h _ (H u v hu hv).2.1, h _ (H u v hu hv).2.2⟩
  | 3, H => exact fun u v w hu hv hw => h _ (H u v w hu hv hw)
  | _ + 4, _ => exact trivial
theorem gz_Mg {k : Nat} {G K : gz_V → Prop} {I : Int → Prop} (h : ∀ u, G u → K u) (H : gz_M k K I) : gz_M k G I := by
  match k, H with
  | 0, H => exact H
  | 1, H => exact fun u hu => H u (h u hu)
  | 2, H => exact fun u v hu hv => H u v (h u hu) (h v hv)
  | 3, H => exact fun u v w hu hv hw => H u v w (h u hu) (h v hv) (h w hw)
  | _ + 4, _ => exact trivial
theorem gz_M1s {G : gz_V → Prop} {I : Int → Prop} (hI : gz_Id I) (h : gz_M1 G I) : gz_M1 (gz_Sp G) I := fun u hu =>
  hu (fun w => I w.1 ∧ I w.2.1 ∧ I w.2.2) ⟨hI.1, hI.1, hI.1⟩ (fun w g t hw hg =>
    ⟨hI.2 _ _ t hw.1 (h g hg).1, hI.2 _ _ t hw.2.1 (h g hg).2.1, hI.2 _ _ t hw.2.2 (h g hg).2.2⟩)
theorem gz_xyl (u g v : gz_V) (t : Int) : gz_xy (gz_ad u t g) v = gz_xy u v + t * gz_xy g v := by simp only [gz_xy, gz_ad]; grind
theorem gz_xzl (u g v : gz_V) (t : Int) : gz_xz (gz_ad u t g) v = gz_xz u v + t * gz_xz g v := by simp only [gz_xz, gz_ad]; grind
theorem gz_yzl (u g v : gz_V) (t : Int) : gz_yz (gz_ad u t g) v = gz_yz u v + t * gz_yz g v := by simp only [gz_yz, gz_ad]; grind
theorem gz_xyr (u g v : gz_V) (t : Int) : gz_xy v (gz_ad u t g) = gz_xy v u + t * gz_xy v g := by simp only [gz_xy, gz_ad]; grind
theorem gz_xzr (u g v : gz_V) (t : Int) : gz_xz v (gz_ad u t g) = gz_xz v u + t * gz_xz v g := by simp only [gz_xz, gz_ad]; grind
theorem gz_yzr (u g v : gz_V) (t : Int) : gz_yz v (gz_ad u t g) = gz_yz v u + t * gz_yz v g := by simp only [gz_yz, gz_ad]; grind
theorem gz_dtl (u g v w : gz_V) (t : Int) : gz_dt (gz_ad u t g) v w = gz_dt u v w + t * gz_dt g v w := by simp only [gz_dt, gz_ad]; grind
theorem gz_dtm (u g v w : gz_V) (t : Int) : gz_dt v (gz_ad u t g) w = gz_dt v u w + t * gz_dt v g w := by
  simp only [gz_dt, gz_yzl, gz_xzl, gz_xyl]; grind
theorem gz_dtr (u g v w : gz_V) (t : Int) : gz_dt v w (gz_ad u t g) = gz_dt v w u + t * gz_dt v w g := by
  simp only [gz_dt, gz_yzr, gz_xzr, gz_xyr]; grind
/-- a form that is linear in each place keeps I from the rows to the span -/
theorem gz_lin {G : gz_V → Prop} {I : Int → Prop} (hI : gz_Id I) (f : gz_V → Int) (hl : ∀ u g t, f (gz_ad u t g) = f u + t * f g)
    (h0 : f (0, 0, 0) = 0) (h : ∀ u, G u → I (f u)) : ∀ u, gz_Sp G u → I (f u) := fun u hu =>
  hu (fun w => I (f w)) (by rw [h0]; exact hI.1) (fun w g t hw hg => by rw [hl]; exact hI.2 _ _ t hw (h g hg))
theorem gz_bil {G : gz_V → Prop} {I : Int → Prop} (hI : gz_Id I) (f : gz_V → gz_V → Int)
    (hl : ∀ u g v t, f (gz_ad u t g) v = f u v + t * f g v) (hr : ∀ u g v t, f v (gz_ad u t g) = f v u + t * f v g)
    (h0 : ∀ v, f (0, 0, 0) v = 0) (h1 : ∀ v, f v (0, 0, 0) = 0) (h : ∀ u v, G u → G v → I (f u v)) :
    ∀ u v, gz_Sp G u → gz_Sp G v → I (f u v) := fun u v hu hv =>
  gz_lin hI (fun w => f u w) (fun w g t => hr w g u t) (h1 u)
    (fun w hw => gz_lin hI (fun x => f x w) (fun x g t => hl x g w t) (h0 w) (fun x hx => h x w hx hw) u hu) v hv
theorem gz_M2s {G : gz_V → Prop} {I : Int → Prop} (hI : gz_Id I) (h : gz_M2 G I) : gz_M2 (gz_Sp G) I := by
  have h1 : ∀ u v, gz_Sp G u → G v → I (gz_xy u v) ∧ I (gz_xz u v) ∧ I (gz_yz u v) := fun u v hu hv =>
    hu (fun w => I (gz_xy w v) ∧ I (gz_xz w v) ∧ I (gz_yz w v))
      ⟨by simp only [gz_xy, Int.zero_mul, Int.sub_zero]; exact hI.1, by simp only [gz_xz, Int.zero_mul, Int.sub_zero]; exact hI.1, by simp only [gz_yz, Int.zero_mul, Int.sub_zero]; exact hI.1⟩
      (fun w g t hw hg => ⟨by rw [gz_xyl]; exact hI.2 _ _ t hw.1 (h g v hg hv).1, by rw [gz_xzl]; exact hI.2 _ _ t hw.2.1 (h g v hg hv).2.1, by rw [gz_yzl]; exact hI.2 _ _ t hw.2.2 (h g v hg hv).2.2⟩)
  exact fun u v hu hv =>
    hv (fun w => I (gz_xy u w) ∧ I (gz_xz u w) ∧ I (gz_yz u w))
      ⟨by simp only [gz_xy, Int.mul_zero, Int.sub_zero]; exact hI.1, by simp only [gz_xz, Int.mul_zero, Int.sub_zero]; exact hI.1, by simp only [gz_yz, Int.mul_zero, Int.sub_zero]; exact hI.1⟩
      (fun w g t hw hg => ⟨by rw [gz_xyr]; exact hI.2 _ _ t hw.1 (h1 u g hu hg).1, by rw [gz_xzr]; exact hI.2 _ _ t hw.2.1 (h1 u g hu hg).2.1, by rw [gz_yzr]; exact hI.2 _ _ t hw.2.2 (h1 u g hu hg).2.2⟩)
theorem gz_M3s {G : gz_V → Prop} {I : Int → Prop} (hI : gz_Id I) (h : gz_M3 G I) : gz_M3 (gz_Sp G) I := by
  have z1 : ∀ v w, gz_dt (0, 0, 0) v w = 0 := fun v w => by simp [gz_dt]
  have z2 : ∀ v w, gz_dt v (0, 0, 0) w = 0 := fun v w => by simp [gz_dt, gz_yz, gz_xz, gz_xy]
  have z3 : ∀ v w, gz_dt v w (0, 0, 0) = 0 := fun v w => by simp [gz_dt, gz_yz, gz_xz, gz_xy]
  have h1 : ∀ u v w, gz_Sp G u → G v → G w → I (gz_dt u v w) := fun u v w hu hv hw =>
    hu (fun x => I (gz_dt x v w)) (by rw [z1]; exact hI.1) (fun x g t hx hg => by rw [gz_dtl]; exact hI.2 _ _ t hx (h g v w hg hv hw))
  have h2 : ∀ u v w, gz_Sp G u → gz_Sp G v → G w → I (gz_dt u v w) := fun u v w hu hv hw =>
    hv (fun x => I (gz_dt u x w)) (by rw [z2]; exact hI.1) (fun x g t hx hg => by rw [gz_dtm]; exact hI.2 _ _ t hx (h1 u g w hu hg hw))
  exact fun u v w hu hv hw =>
    hw (fun x => I (gz_dt u v x)) (by rw [z3]; exact hI.1) (fun x g t hx hg => by rw [gz_dtr]; exact hI.2 _ _ t hx (h2 u v g hu hv hg))
/-- the minors of the span lie where those of the rows lie -/
theorem gz_Ms {k : Nat} {G : gz_V → Prop} {I : Int → Prop} (hI : gz_Id I) (H : gz_M k G I) : gz_M k (gz_Sp G) I := by
  match k, H with
  | 0, H => exact H
  | 1, H => exact gz_M1s hI H
  | 2, H => exact gz_M2s hI H
  | 3, H => exact gz_M3s hI H
  | _ + 4, _ => exact trivial
/-- n is D(k) -/
def gz_D (k : Nat) (G : gz_V → Prop) (n : Int) : Prop := 0 ≤ n ∧ ∀ d : Int, d ∣ n ↔ gz_M k G (fun x => d ∣ x)
theorem gz_Du {k : Nat} {G : gz_V → Prop} {n m : Int} (hn : gz_D k G n) (hm : gz_D k G m) : n = m :=
  Int.dvd_antisymm hn.1 hm.1 ((hm.2 n).2 ((hn.2 n).1 (Int.dvd_refl n))) ((hn.2 m).2 ((hm.2 m).1 (Int.dvd_refl m)))
theorem gz_DI {k : Nat} {G : gz_V → Prop} {I : Int → Prop} {n : Int} (hI : gz_Id I) (hD : gz_D k G n) (h : gz_M k G I) : I n := by
  obtain ⟨d, hd, hall⟩ := gz_prin I hI
  obtain ⟨e, he⟩ := (hD.2 d).2 (gz_Mm hall h)
  have h2 := hI.2 0 d e hI.1 hd
  have e2 : 0 + e * d = n := by rw [he, Int.mul_comm]; omega
  rw [e2] at h2
  exact h2
theorem gz_D0 {k : Nat} {G : gz_V → Prop} {n : Int} (hD : gz_D k G n) : n = 0 ↔ gz_M k G (fun x => (0 : Int) ∣ x) :=
  ⟨fun h => (hD.2 0).1 (by rw [h]; exact Int.dvd_refl 0), fun h => Int.zero_dvd.1 ((hD.2 0).2 h)⟩
theorem gz_Ds {k : Nat} {G : gz_V → Prop} {n : Int} (hD : gz_D k G n) : gz_D k (gz_Sp G) n :=
  ⟨hD.1, fun d => ⟨fun h => gz_Ms (gz_Idd d) ((hD.2 d).1 h), fun h => (hD.2 d).2 (gz_Mg (fun _ hu => gz_SpG hu) h)⟩⟩
/-- one row more -/
def gz_pl (G : gz_V → Prop) (v : gz_V) : gz_V → Prop := fun u => G u ∨ u = v
theorem gz_xys (m : Int) (u v : gz_V) : gz_xy (gz_sm m u) v = m * gz_xy u v ∧ gz_xy u (gz_sm m v) = m * gz_xy u v := by
  constructor <;> simp only [gz_xy, gz_sm] <;> grind
theorem gz_xzs (m : Int) (u v : gz_V) : gz_xz (gz_sm m u) v = m * gz_xz u v ∧ gz_xz u (gz_sm m v) = m * gz_xz u v := by
  constructor <;> simp only [gz_xz, gz_sm] <;> grind
theorem gz_yzs (m : Int) (u v : gz_V) : gz_yz (gz_sm m u) v = m * gz_yz u v ∧ gz_yz u (gz_sm m v) = m * gz_yz u v := by
  constructor <;> simp only [gz_yz, gz_sm] <;> grind
theorem gz_dts (m : Int) (u v w : gz_V) : gz_dt (gz_sm m u) v w = m * gz_dt u v w ∧ gz_dt u (gz_sm m v) w = m * gz_dt u v w ∧ gz_dt u v (gz_sm m w) = m * gz_dt u v w := by
  refine ⟨?_, ?_, ?_⟩ <;> simp only [gz_dt, gz_xy, gz_xz, gz_yz, gz_sm] <;> grind
theorem gz_vv (v : gz_V) : gz_xy v v = 0 ∧ gz_xz v v = 0 ∧ gz_yz v v = 0 := by
  refine ⟨?_, ?_, ?_⟩ <;> simp only [gz_xy, gz_xz, gz_yz] <;> grind
theorem gz_vvw (v w : gz_V) : gz_dt v v w = 0 ∧ gz_dt v w v = 0 ∧ gz_dt w v v = 0 := by
  refine ⟨?_, ?_, ?_⟩ <;> simp only [gz_dt, gz_xy, gz_xz, gz_yz] <;> grind
theorem gz_d0 (d m : Int) {x : Int} (h : x = 0) : d ∣ m * x := by rw [h, Int.mul_zero]; exact Int.dvd_zero d
/-- if m v is of the span, the minors with v, times m, are divisible too -/
theorem gz_Mv {k : Nat} {G : gz_V → Prop} {d m : Int} {v : gz_V} (h : gz_M k G (fun x => d ∣ x)) (hv : gz_Sp G (gz_sm m v)) :
    gz_M k (gz_pl G v) (fun x => d ∣ m * x) := by
  have hs := gz_Ms (gz_Idd d) h
  match k, h, hs with
  | 0, h, _ => exact Int.dvd_mul_of_dvd_right h
  | 1, h, hs =>
    intro u hu
    rcases hu with hu | rfl
    · exact ⟨Int.dvd_mul_of_dvd_right (h u hu).1, Int.dvd_mul_of_dvd_right (h u hu).2.1, Int.dvd_mul_of_dvd_right (h u hu).2.2⟩
    · exact hs _ hv
  | 2, h, hs =>
    intro u w hu hw
    rcases hu with hu | rfl
    · rcases hw with hw | rfl
      · exact ⟨Int.dvd_mul_of_dvd_right (h u w hu hw).1, Int.dvd_mul_of_dvd_right (h u w hu hw).2.1, Int.dvd_mul_of_dvd_right (h u w hu hw).2.2⟩
      · have q := hs u _ (gz_SpG hu) hv
        rw [(gz_xys m u w).2, (gz_xzs m u w).2, (gz_yzs m u w).2] at q
        exact q
    · rcases hw with hw | rfl
      · have q := hs _ w hv (gz_SpG hw)
        rw [(gz_xys m u w).1, (gz_xzs m u w).1, (gz_yzs m u w).1] at q
        exact q
      · exact ⟨gz_d0 d m (gz_vv w).1, gz_d0 d m (gz_vv w).2.1, gz_d0 d m (gz_vv w).2.2⟩
  | 3, h, hs =>
    intro u w y hu hw hy
    show d ∣ m * gz_dt u w y
    rcases hu with hu | rfl
    · rcases hw with hw | rfl
      · rcases hy with hy | rfl
        · exact Int.dvd_mul_of_dvd_right (h u w y hu hw hy)
        · rw [← (gz_dts m u w y).2.2]; exact hs _ _ _ (gz_SpG hu) (gz_SpG hw) hv
      · rcases hy with hy | rfl
        · rw [← (gz_dts m u w y).2.1]; exact hs _ _ _ (gz_SpG hu) hv (gz_SpG hy)
        · exact gz_d0 d m (gz_vvw y u).2.2
    · rcases hw with hw | rfl
      · rcases hy with hy | rfl
        · rw [← (gz_dts m u w y).1]; exact hs _ _ _ hv (gz_SpG hw) (gz_SpG hy)
        · exact gz_d0 d m (gz_vvw y w).2.1
      · exact gz_d0 d m (gz_vvw w y).1
  | _ + 4, _, _ => exact trivial
theorem gz_c1 {P A m g t vi w : Int} (e : P * vi = A * w) (a : m * A = g * t) : P * m * vi = g * (t * w) := by
  have e1 : P * m * vi = m * (P * vi) := by grind
  have e2 : m * (A * w) = m * A * w := by grind
  rw [e1, e, e2, a, Int.mul_assoc]
theorem gz_c2 {P A B m g t s vi w x : Int} (e : P * vi = A * w + B * x) (a : m * A = g * t) (b : m * B = g * s) : P * m * vi = g * (t * w + s * x) := by
  have e1 : P * m * vi = m * (P * vi) := by grind
  have e2 : m * (A * w + B * x) = m * A * w + m * B * x := by grind
  rw [e1, e, e2, a, b]
  grind
theorem gz_c3 {P A B C m g t s r vi w x y : Int} (e : P * vi = A * w + B * x + C * y) (a : m * A = g * t) (b : m * B = g * s) (c : m * C = g * r) : P * m * vi = g * (t * w + s * x + r * y) := by
  have e1 : P * m * vi = m * (P * vi) := by grind
  have e2 : m * (A * w + B * x + C * y) = m * A * w + m * B * x + m * C * y := by grind
  rw [e1, e, e2, a, b, c]
  grind
/-- Cramer's rule, in the three sizes -/
theorem gz_k2 {u w v : gz_V} (h : gz_dt u w v = 0) :
    (∀ c : gz_V → Int, (c = (·.1) ∨ c = (·.2.1) ∨ c = (·.2.2)) →
      gz_xy u w * c v = gz_xy v w * c u + gz_xy u v * c w ∧ gz_xz u w * c v = gz_xz v w * c u + gz_xz u v * c w ∧ gz_yz u w * c v = gz_yz v w * c u + gz_yz u v * c w) := by
  simp only [gz_dt, gz_xy, gz_xz, gz_yz] at h
  intro c hc
  rcases hc with rfl | rfl | rfl <;> refine ⟨?_, ?_, ?_⟩ <;> simp only [gz_xy, gz_xz, gz_yz] <;> grind
theorem gz_k3 (u w y v : gz_V) (c : gz_V → Int) (hc : c = (·.1) ∨ c = (·.2.1) ∨ c = (·.2.2)) :
    gz_dt u w y * c v = gz_dt v w y * c u + gz_dt u v y * c w + gz_dt u w v * c y := by
  rcases hc with rfl | rfl | rfl <;> simp only [gz_dt, gz_xy, gz_xz, gz_yz] <;> grind
def gz_J (G : gz_V → Prop) (v : gz_V) (g m x : Int) : Prop := ∃ u, gz_Sp G u ∧ gz_sm (x * m) v = gz_sm g u
theorem gz_JI (G : gz_V → Prop) (v : gz_V) (g m : Int) : gz_Id (gz_J G v g m) := by
  refine ⟨⟨(0, 0, 0), gz_Sp0, by apply gz_ext <;> simp [gz_sm]⟩, ?_⟩
  intro a b t ⟨u, hu, eu⟩ ⟨w, hw, ew⟩
  refine ⟨gz_ad u t w, gz_SpAd t hu hw, ?_⟩
  have u1 := congrArg (fun w : gz_V => w.1) eu
  have u2 := congrArg (fun w : gz_V => w.2.1) eu
  have u3 := congrArg (fun w : gz_V => w.2.2) eu
  have w1 := congrArg (fun w : gz_V => w.1) ew
  have w2 := congrArg (fun w : gz_V => w.2.1) ew
  have w3 := congrArg (fun w : gz_V => w.2.2) ew
  simp only [gz_sm] at u1 u2 u3 w1 w2 w3
  apply gz_ext <;> simp only [gz_sm, gz_ad] <;> grind
/-- the heart: m v is of the span just when D(k) divides m times D(k) of the rows with v -/
theorem gz_T {k : Nat} {G : gz_V → Prop} {v : gz_V} {g h : Int} (hg : gz_D k G g) (hh : gz_D k (gz_pl G v) h)
    (h0 : gz_M (k + 1) (gz_pl G v) (fun x => (0 : Int) ∣ x)) (gn : g ≠ 0) (m : Int) : gz_Sp G (gz_sm m v) ↔ g ∣ m * h := by
  constructor
  · intro hv
    refine gz_DI (I := fun x => g ∣ m * x) ⟨by show g ∣ m * 0; rw [Int.mul_zero]; exact Int.dvd_zero g, fun a b t ha hb => ?_⟩ hh (gz_Mv ((hg.2 g).1 (Int.dvd_refl g)) hv)
    have e : m * (a + t * b) = m * a + t * (m * b) := by grind
    show g ∣ m * (a + t * b)
    rw [e]
    exact Int.dvd_add ha (Int.dvd_mul_of_dvd_right hb)
  · intro H
    have hM : gz_M k (gz_pl G v) (fun x => g ∣ m * x) :=
      gz_Mm (fun x hx => Int.dvd_trans H (Int.mul_dvd_mul_left m hx)) ((hh.2 h).1 (Int.dvd_refl h))
    have hJ : gz_M k G (gz_J G v g m) := by
      match k, h0, hM with
      | 0, h0, _ =>
        have z := h0 v (Or.inr rfl)
        have z1 := Int.zero_dvd.1 z.1
        have z2 := Int.zero_dvd.1 z.2.1
        have z3 := Int.zero_dvd.1 z.2.2
        refine ⟨(0, 0, 0), gz_Sp0, ?_⟩
        apply gz_ext <;> simp [gz_sm, z1, z2, z3]
      | 1, h0, hM =>
        intro w hw
        have z := h0 w v (Or.inl hw) (Or.inr rfl)
        have z1 := Int.zero_dvd.1 z.1
        have z2 := Int.zero_dvd.1 z.2.1
        have z3 := Int.zero_dvd.1 z.2.2
        simp only [gz_xy, gz_xz, gz_yz] at z1 z2 z3
        obtain ⟨⟨t1, q1⟩, ⟨t2, q2⟩, ⟨t3, q3⟩⟩ := hM v (Or.inr rfl)
        refine ⟨⟨gz_sm t1 w, gz_SpS _ (gz_SpG hw), ?_⟩, ⟨gz_sm t2 w, gz_SpS _ (gz_SpG hw), ?_⟩, ⟨gz_sm t3 w, gz_SpS _ (gz_SpG hw), ?_⟩⟩
        · apply gz_ext <;> simp only [gz_sm] <;> refine gz_c1 ?_ q1 <;> grind
        · apply gz_ext <;> simp only [gz_sm] <;> refine gz_c1 ?_ q2 <;> grind
        · apply gz_ext <;> simp only [gz_sm] <;> refine gz_c1 ?_ q3 <;> grind
      | 2, h0, hM =>
        intro w y hw hy
        have z := Int.zero_dvd.1 (h0 w y v (Or.inl hw) (Or.inl hy) (Or.inr rfl))
        have c1 := gz_k2 z (·.1) (Or.inl rfl)
        have c2 := gz_k2 z (·.2.1) (Or.inr (Or.inl rfl))
        have c3 := gz_k2 z (·.2.2) (Or.inr (Or.inr rfl))
        obtain ⟨⟨t1, q1⟩, ⟨t2, q2⟩, ⟨t3, q3⟩⟩ := hM v y (Or.inr rfl) (Or.inl hy)
        obtain ⟨⟨s1, r1⟩, ⟨s2, r2⟩, ⟨s3, r3⟩⟩ := hM w v (Or.inl hw) (Or.inr rfl)
        refine ⟨⟨gz_ad (gz_sm t1 w) s1 y, gz_SpA _ (gz_SpS _ (gz_SpG hw)) hy, ?_⟩, ⟨gz_ad (gz_sm t2 w) s2 y, gz_SpA _ (gz_SpS _ (gz_SpG hw)) hy, ?_⟩, ⟨gz_ad (gz_sm t3 w) s3 y, gz_SpA _ (gz_SpS _ (gz_SpG hw)) hy, ?_⟩⟩
        · exact gz_ext (gz_c2 c1.1 q1 r1) (gz_c2 c2.1 q1 r1) (gz_c2 c3.1 q1 r1)
        · exact gz_ext (gz_c2 c1.2.1 q2 r2) (gz_c2 c2.2.1 q2 r2) (gz_c2 c3.2.1 q2 r2)
        · exact gz_ext (gz_c2 c1.2.2 q3 r3) (gz_c2 c2.2.2 q3 r3) (gz_c2 c3.2.2 q3 r3)
      | 3, _, hM =>
        intro w y x hw hy hx
        obtain ⟨t1, q1⟩ := hM v y x (Or.inr rfl) (Or.inl hy) (Or.inl hx)
        obtain ⟨t2, q2⟩ := hM w v x (Or.inl hw) (Or.inr rfl) (Or.inl hx)
        obtain ⟨t3, q3⟩ := hM w y v (Or.inl hw) (Or.inl hy) (Or.inr rfl)
        refine ⟨gz_ad (gz_ad (gz_sm t1 w) t2 y) t3 x, gz_SpA _ (gz_SpA _ (gz_SpS _ (gz_SpG hw)) hy) hx, ?_⟩
        exact gz_ext (gz_c3 (gz_k3 w y x v (·.1) (Or.inl rfl)) q1 q2 q3) (gz_c3 (gz_k3 w y x v (·.2.1) (Or.inr (Or.inl rfl))) q1 q2 q3) (gz_c3 (gz_k3 w y x v (·.2.2) (Or.inr (Or.inr rfl))) q1 q2 q3)
      | _ + 4, _, _ => exact trivial
    obtain ⟨u, hu, eu⟩ := gz_DI (gz_JI G v g m) hg hJ
    have u1 := congrArg (fun w : gz_V => w.1) eu
    have u2 := congrArg (fun w : gz_V => w.2.1) eu
    have u3 := congrArg (fun w : gz_V => w.2.2) eu
    simp only [gz_sm, Int.mul_assoc] at u1 u2 u3
    have e : gz_sm m v = u := gz_ext (Int.eq_of_mul_eq_mul_left gn u1) (Int.eq_of_mul_eq_mul_left gn u2) (Int.eq_of_mul_eq_mul_left gn u3)
    rw [e]
    exact hu
/-- e is the least multiple of v that the span has; 0: there is none -/
def gz_Or (G : gz_V → Prop) (v : gz_V) (e : Int) : Prop := 0 ≤ e ∧ ∀ m : Int, gz_Sp G (gz_sm m v) ↔ e ∣ m
theorem gz_Oru {G : gz_V → Prop} {v : gz_V} {e f : Int} (he : gz_Or G v e) (hf : gz_Or G v f) : e = f :=
  Int.dvd_antisymm he.1 hf.1 ((he.2 f).1 ((hf.2 f).2 (Int.dvd_refl f))) ((hf.2 e).1 ((he.2 e).2 (Int.dvd_refl e)))
theorem gz_OrE {G H : gz_V → Prop} {v : gz_V} {e : Int} (h : ∀ u, gz_Sp G u ↔ gz_Sp H u) (he : gz_Or G v e) : gz_Or H v e :=
  ⟨he.1, fun m => (h _).symm.trans (he.2 m)⟩
theorem gz_sm1 (v : gz_V) : gz_sm 1 v = v := gz_ext (by simp [gz_sm]) (by simp [gz_sm]) (by simp [gz_sm])
theorem gz_Or1 {G : gz_V → Prop} {v : gz_V} {e : Int} (he : gz_Or G v e) : gz_Sp G v ↔ e = 1 := by
  have h := he.2 1
  rw [gz_sm1] at h
  exact h.trans ⟨fun h => Int.eq_one_of_dvd_one he.1 h, fun h => by rw [h]; exact Int.dvd_refl 1⟩
theorem gz_OrT {k : Nat} {G : gz_V → Prop} {v : gz_V} {g h : Int} (hg : gz_D k G g) (hh : gz_D k (gz_pl G v) h)
    (h0 : gz_M (k + 1) (gz_pl G v) (fun x => (0 : Int) ∣ x)) (gn : g ≠ 0) : 0 < h ∧ 0 < g.tdiv h ∧ gz_Or G v (g.tdiv h) := by
  have hd : h ∣ g := (hg.2 h).2 (gz_Mg (fun _ hu => Or.inl hu) ((hh.2 h).1 (Int.dvd_refl h)))
  have hg0 := hg.1
  have hh0 := hh.1
  have hn : h ≠ 0 := fun e => gn (by rw [e] at hd; exact Int.zero_dvd.1 hd)
  obtain ⟨e, he⟩ := hd
  have e1 : g.tdiv h = e := by rw [he]; exact Int.mul_tdiv_cancel_left e hn
  have hp : 0 < h := by omega
  have ep : 0 < e := Int.pos_of_mul_pos_right (a := h) (by rw [← he]; omega) hp
  rw [e1]
  refine ⟨hp, ep, by omega, fun m => (gz_T hg hh h0 gn m).trans ?_⟩
  rw [he, Int.mul_comm m h]
  exact Int.mul_dvd_mul_iff_left hn
theorem gz_OrN {k : Nat} {G : gz_V → Prop} {v : gz_V} (hk : gz_M k G (fun x => (0 : Int) ∣ x)) (hn : ¬ gz_M k (gz_pl G v) (fun x => (0 : Int) ∣ x)) : gz_Or G v 0 := by
  refine ⟨Int.le_refl 0, fun m => ⟨fun hv => ?_, fun h => ?_⟩⟩
  · by_cases hm : m = 0
    · rw [hm]; exact Int.dvd_refl 0
    · refine absurd (gz_Mm (fun x hx => ?_) (gz_Mv hk hv)) hn
      have q := Int.zero_dvd.1 hx
      rcases Int.mul_eq_zero.1 q with q | q
      · exact absurd q hm
      · rw [q]; exact Int.dvd_refl 0
  · rw [Int.zero_dvd.1 h]
    have e : gz_sm 0 v = (0, 0, 0) := gz_ext (by simp [gz_sm]) (by simp [gz_sm]) (by simp [gz_sm])
    rw [e]
    exact gz_Sp0
