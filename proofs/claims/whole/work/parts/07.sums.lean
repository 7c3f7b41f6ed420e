/-! sums over ranges; the search for the shortest points -/
def gz_S : Nat → (Nat → Nat) → Nat
  | 0, _ => 0
  | n + 1, f => gz_S n f + f n
noncomputable def gz_ind (P : Prop) : Nat := @ite Nat P (Classical.propDecidable P) 1 0
theorem gz_ind1 {P : Prop} (h : P) : gz_ind P = 1 := if_pos h
theorem gz_ind0 {P : Prop} (h : ¬ P) : gz_ind P = 0 := if_neg h
theorem gz_indE {P Q : Prop} (h : P ↔ Q) : gz_ind P = gz_ind Q := by rw [propext h]
theorem gz_Sc {n : Nat} {f g : Nat → Nat} (h : ∀ i, i < n → f i = g i) : gz_S n f = gz_S n g := by
  induction n with
  | zero => rfl
  | succ n ih =>
    show gz_S n f + f n = gz_S n g + g n
    rw [ih (fun i hi => h i (by omega)), h n (by omega)]
theorem gz_S0 {n : Nat} {f : Nat → Nat} (h : ∀ i, i < n → f i = 0) : gz_S n f = 0 := by
  induction n with
  | zero => rfl
  | succ n ih =>
    show gz_S n f + f n = 0
    rw [ih (fun i hi => h i (by omega)), h n (by omega)]
theorem gz_Sge {n i : Nat} {f : Nat → Nat} (hi : i < n) : f i ≤ gz_S n f := by
  induction n with
  | zero => omega
  | succ n ih =>
    show f i ≤ gz_S n f + f n
    by_cases e : i = n
    · subst e; omega
    · have := ih (by omega)
      omega
theorem gz_Sadd (n : Nat) (f g : Nat → Nat) : gz_S n (fun i => f i + g i) = gz_S n f + gz_S n g := by
  induction n with
  | zero => rfl
  | succ n ih =>
    show gz_S n (fun i => f i + g i) + (f n + g n) = gz_S n f + f n + (gz_S n g + g n)
    rw [ih]
    omega
theorem gz_Sapp (a b : Nat) (f : Nat → Nat) : gz_S (a + b) f = gz_S a f + gz_S b (fun i => f (a + i)) := by
  induction b with
  | zero => rfl
  | succ b ih =>
    show gz_S (a + b) f + f (a + b) = gz_S a f + (gz_S b (fun i => f (a + i)) + f (a + b))
    rw [ih]
    omega
theorem gz_Sswap (n m : Nat) (f : Nat → Nat → Nat) : gz_S n (fun i => gz_S m (fun j => f i j)) = gz_S m (fun j => gz_S n (fun i => f i j)) := by
  induction n with
  | zero => exact (gz_S0 (fun _ _ => rfl)).symm
  | succ n ih =>
    show gz_S n (fun i => gz_S m (fun j => f i j)) + gz_S m (fun j => f n j) = gz_S m (fun j => gz_S n (fun i => f i j) + f n j)
    rw [ih, gz_Sadd]
theorem gz_Sdm {n : Nat} (hn : 0 < n) (m : Nat) (g : Nat → Nat → Nat) : gz_S (n * m) (fun i => g (i % n) (i / n)) = gz_S m (fun j => gz_S n (fun i => g i j)) := by
  induction m with
  | zero => rfl
  | succ m ih =>
    rw [Nat.mul_succ, gz_Sapp, ih]
    show _ = gz_S m (fun j => gz_S n (fun i => g i j)) + gz_S n (fun i => g i m)
    congr 1
    apply gz_Sc
    intro i hi
    rw [Nat.mul_add_mod, Nat.mod_eq_of_lt hi, Nat.mul_add_div hn, Nat.div_eq_of_lt hi, Nat.add_zero]
/-- the box in the two orders -/
theorem gz_box (n : Nat) (f : Nat → Nat → Nat → Nat) :
    gz_S (n * n * n) (fun i => f (i % n) (i / n % n) (i / n / n)) = gz_S n (fun x => gz_S n (fun y => gz_S n (fun z => f x y z))) := by
  by_cases hn : n = 0
  · subst hn; rfl
  · have h0 : 0 < n := by omega
    have h1 := gz_Sdm h0 (n * n) (fun x j => f x (j % n) (j / n))
    rw [Nat.mul_assoc, h1]
    rw [gz_Sdm h0 n (fun y z => gz_S n (fun x => f x y z))]
    rw [gz_Sswap n n (fun z y => gz_S n (fun x => f x y z))]
    have e : (fun y => gz_S n (fun z => gz_S n (fun x => f x y z))) = (fun y => gz_S n (fun x => gz_S n (fun z => f x y z))) := by
      funext y
      exact gz_Sswap n n (fun z x => f x y z)
    rw [e]
    exact gz_Sswap n n (fun y x => gz_S n (fun z => f x y z))
/-- the state of a search: least L, found n, start K, counts C of each square so far -/
def gz_Se (K : Int) (C : Int → Nat) (L : Int) (n : Nat) : Prop :=
  0 < L ∧ L ≤ K ∧ n = C L ∧ (∀ l, 0 < l → l < L → C l = 0) ∧ (L = K ∨ 1 ≤ C L)
theorem gz_Se0 {K : Int} (h : 0 < K) : gz_Se K (fun _ => 0) K 0 := ⟨h, Int.le_refl K, rfl, fun _ _ _ => rfl, Or.inl rfl⟩
theorem gz_SeC {K L : Int} {C D : Int → Nat} {n : Nat} (h : gz_Se K C L n) (e : ∀ l, 0 < l → C l = D l) : gz_Se K D L n := by
  obtain ⟨h1, h2, h3, h4, h5⟩ := h
  refine ⟨h1, h2, by rw [h3, e L h1], fun l a b => by rw [← e l a]; exact h4 l a b, ?_⟩
  rw [← e L h1]
  exact h5
/-- a point that isn't of the grid, or is 0, or is longer -/
theorem gz_SeN {K L q : Int} {C : Int → Nat} {n : Nat} {P : Prop} (h : gz_Se K C L n) (hp : ¬ P ∨ q ≤ 0 ∨ L < q) : gz_Se K (fun l => C l + gz_ind (P ∧ q = l)) L n := by
  obtain ⟨h1, h2, h3, h4, h5⟩ := h
  have hz : ∀ l, 0 < l → l ≤ L → gz_ind (P ∧ q = l) = 0 := fun l a b => gz_ind0 (fun ⟨x, y⟩ => by
    rcases hp with hp | hp | hp
    · exact hp x
    · omega
    · omega)
  refine ⟨h1, h2, ?_, fun l a b => ?_, ?_⟩
  · show n = C L + gz_ind (P ∧ q = L)
    rw [hz L h1 (Int.le_refl L), h3, Nat.add_zero]
  · show C l + gz_ind (P ∧ q = l) = 0
    rw [hz l a (Int.le_of_lt b), h4 l a b]
  · show L = K ∨ 1 ≤ C L + gz_ind (P ∧ q = L)
    rw [hz L h1 (Int.le_refl L), Nat.add_zero]
    exact h5
theorem gz_SeE {K L q : Int} {C : Int → Nat} {n : Nat} {P : Prop} (h : gz_Se K C L n) (hp : P) (hq : q = L) : gz_Se K (fun l => C l + gz_ind (P ∧ q = l)) L (n + 1) := by
  obtain ⟨h1, h2, h3, h4, h5⟩ := h
  refine ⟨h1, h2, ?_, fun l a b => ?_, Or.inr ?_⟩
  · show n + 1 = C L + gz_ind (P ∧ q = L)
    rw [gz_ind1 ⟨hp, hq⟩, h3]
  · show C l + gz_ind (P ∧ q = l) = 0
    rw [gz_ind0 (fun ⟨_, y⟩ => by omega), h4 l a b]
  · show 1 ≤ C L + gz_ind (P ∧ q = L)
    rw [gz_ind1 ⟨hp, hq⟩]
    omega
theorem gz_SeL {K L q : Int} {C : Int → Nat} {n : Nat} {P : Prop} (h : gz_Se K C L n) (hp : P) (hq : 0 < q) (hl : q < L) : gz_Se K (fun l => C l + gz_ind (P ∧ q = l)) q 1 := by
  obtain ⟨h1, h2, h3, h4, h5⟩ := h
  refine ⟨hq, by omega, ?_, fun l a b => ?_, Or.inr ?_⟩
  · show 1 = C q + gz_ind (P ∧ q = q)
    rw [gz_ind1 ⟨hp, rfl⟩, h4 q hq hl]
  · show C l + gz_ind (P ∧ q = l) = 0
    rw [gz_ind0 (fun ⟨_, y⟩ => by omega), h4 l a (by omega)]
  · show 1 ≤ C q + gz_ind (P ∧ q = q)
    rw [gz_ind1 ⟨hp, rfl⟩]
    omega
/-- two searches with the same counts end alike -/
theorem gz_SeU {K J L R : Int} {C D : Int → Nat} {n m : Nat} (h : gz_Se K C L n) (g : gz_Se J D R m) (hJ : J ≤ K) (e : ∀ l, 0 < l → l ≤ K → C l = D l)
    (hr : 1 ≤ D J) : L = R ∧ n = m ∧ 1 ≤ n := by
  obtain ⟨h1, h2, h3, h4, h5⟩ := h
  obtain ⟨g1, g2, g3, g4, g5⟩ := g
  have dR : 1 ≤ D R := by
    rcases g5 with g5 | g5
    · rw [g5]; exact hr
    · exact g5
  have eR := e R g1 (by omega)
  have eL := e L h1 (by omega)
  have e1 : ¬ L < R := fun hlt => by
    have x := g4 L h1 hlt
    rcases h5 with h5 | h5
    · omega
    · omega
  have e2 : ¬ R < L := fun hlt => by
    have x := h4 R g1 hlt
    omega
  have e3 : L = R := by omega
  subst e3
  refine ⟨rfl, ?_, ?_⟩ <;> omega
/-- the longer range counts no more, if its two ends count nothing -/
theorem gz_S33 {f g : Nat → Nat} (h0 : f 0 = 0) (h1 : f 32 = 0) (h : ∀ i, i < 31 → f (i + 1) = g i) : gz_S 33 f = gz_S 31 g := by
  have e1 : gz_S 33 f = gz_S 32 f + f 32 := rfl
  have e2 : gz_S 32 f = gz_S 1 f + gz_S 31 (fun i => f (1 + i)) := gz_Sapp 1 31 f
  have e3 : gz_S 1 f = 0 + f 0 := rfl
  have e4 : gz_S 31 (fun i => f (1 + i)) = gz_S 31 g := gz_Sc (fun i hi => by rw [Nat.add_comm]; exact h i hi)
  omega
