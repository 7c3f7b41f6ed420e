/-! Y: corner -/
def gy_cv (d e : Int) : Int32 := if d = 0 then -1000000 else gz_i e
theorem gy_zq {post : Int32 → SY → Prop} {ff fl : Int32} {D : Nat → Int32} {n : Nat} {w : Nat → Int} {a p q b s c : Int} (hw : gz_sw n w) (hD : gz_cw n w D)
    (hs : ∀ v, gz_Sp (gz_B a p q b s c) v ↔ gz_Sp (gz_R w (-1) n) v) (hH : gz_H a p q b s c) (hB : gz_Bd a p q b s c) (ha : a ≠ 0)
    (h : ∀ D', gz_cw n w D' → post (gz_i q) (nI n, ff, fl, D')) : wpY_zFor post (nI n, ff, fl, D) (gz_i a) (gz_i p) := by
  have g1 := hH.2.1
  have k1 := hB.1
  refine gy_zf hw hD hs hH hB (by omega) hB.2.2.2.1 (fun hc post ff fl D hD hp => ?_) (fun hc => ?_) h
  · refine gy_zo hw hD (by omega) hB.2.2.2.1 (fun r s' hr hs' hne => (gz_qz hs hc (gy_Rm hw hr) (gy_Rm hw hs') hne).1) (fun hall r hr => ?_) (fun _ => ?_) hp
    · have hab : a * b = 0 := gz_ab hs (fun g k hg hk => by
        obtain ⟨r1, h1, e1⟩ := gy_Re hg
        obtain ⟨r2, h2, e2⟩ := gy_Re hk
        subst e1 e2
        exact hall r1 r2 h1 h2)
      have hb : b = 0 := by
        rcases Int.mul_eq_zero.1 hab with h | h
        · exact absurd h ha
        · exact h
      obtain ⟨q1, q2⟩ := gz_qz3 hs hH.1 hc hb ha (gy_Rm hw hr)
      exact ⟨q1, fun e e1 => absurd (q2 e) e1⟩
    · obtain ⟨g, hg, hne⟩ := gz_ex1 hs ha
      obtain ⟨r, hr, e⟩ := gy_Re hg
      subst e
      exact ⟨r, hr, Or.inl hne⟩
  · obtain ⟨q1, q2, _, _⟩ := hH.2.2.2.2.2 hc
    exact ⟨q1, q2, fun z => gz_cz hs hH.1 ha⟩
theorem gy_zs {post : Int32 → SY → Prop} {ff fl : Int32} {D : Nat → Int32} {n : Nat} {w : Nat → Int} {a p q b s c : Int} (hw : gz_sw n w) (hD : gz_cw n w D)
    (hs : ∀ v, gz_Sp (gz_B a p q b s c) v ↔ gz_Sp (gz_R w (-1) n) v) (hH : gz_H a p q b s c) (hB : gz_Bd a p q b s c) (hb : b ≠ 0)
    (h : ∀ D', gz_cw n w D' → post (gz_i s) (nI n, ff, fl, D')) : wpY_zFor post (nI n, ff, fl, D) (gz_i 0) (gz_i b) := by
  have g1 := hH.2.2.1
  have k1 := hB.2.1
  refine gy_zf hw hD hs hH hB (by decide) (by omega) (fun hc post ff fl D hD hp => ?_) (fun hc => ?_) h
  · refine gy_zo hw hD (by decide) (by omega) (fun r s' hr hs' hne => (gz_qz hs hc (gy_Rm hw hr) (gy_Rm hw hs') hne).2) (fun hall r hr => ?_) (fun _ => ?_) hp
    · have hab : a * b = 0 := gz_ab hs (fun g k hg hk => by
        obtain ⟨r1, h1, e1⟩ := gy_Re hg
        obtain ⟨r2, h2, e2⟩ := gy_Re hk
        subst e1 e2
        exact hall r1 r2 h1 h2)
      have ha : a = 0 := by
        rcases Int.mul_eq_zero.1 hab with h | h
        · exact h
        · exact absurd h hb
      obtain ⟨q1, q2⟩ := gz_qz4 hs hH.1 hc ha (gy_Rm hw hr)
      exact ⟨fun e => absurd q1 e, fun _ e1 => q2 e1⟩
    · obtain ⟨g, hg, hne⟩ := gz_ex2 hs hb
      obtain ⟨r, hr, e⟩ := gy_Re hg
      subst e
      exact ⟨r, hr, Or.inr hne⟩
  · obtain ⟨_, _, q1, q2⟩ := hH.2.2.2.2.2 hc
    exact ⟨q1, q2, fun z => gz_cs hs hH.1 hb⟩
def gy_en (a p q b s c : Int) (i j : Nat) : Int :=
  match i, j with
  | 0, 0 => a
  | 0, 1 => p
  | 0, 2 => q
  | 1, 1 => b
  | 1, 2 => s
  | 2, 2 => c
  | _, _ => 0
def gy_dg (a b c : Int) (i : Nat) : Int :=
  match i with
  | 0 => a
  | 1 => b
  | _ => c
theorem gy_sv0 {d e : Int} (h : d = 0) : gy_sv d = -1000000 ∧ gy_cv d e = -1000000 := ⟨if_pos h, if_pos h⟩
theorem gy_sv1 {d e : Int} (h : d ≠ 0) : gy_sv d = gz_i d ∧ gy_cv d e = gz_i e := ⟨if_neg h, if_neg h⟩
section
variable {post : Int32 → SY → Prop} {ff fl : Int32} {D : Nat → Int32} {n : Nat} {w : Nat → Int} {a p q b s c : Int}
theorem gy_co0 (hw : gz_sw n w) (hD : gz_cw n w D)
    (hs : ∀ v, gz_Sp (gz_B a p q b s c) v ↔ gz_Sp (gz_R w (-1) n) v) (hH : gz_H a p q b s c) (hB : gz_Bd a p q b s c) (j : Nat) (hj : j < 3)
    (h : ∀ D', gz_cw n w D' → post (gy_cv a (gy_en a p q b s c 0 j)) (nI n, ff, fl, D')) : wpY_corner post (nI n, ff, fl, D) 0 (nI j) := by
  have g1 := hH.2.1
  have k1 := hB.1
  refine br_f (by decide) (br_f (by decide) (br_f (nI_pos (by omega)) (br_t (nI_le (b := 2) (by omega) (by decide)) (gy_s0 hw hD hs hH ?_))))
  intro D1 hD1
  by_cases ha : a = 0
  · have h2 := h D1 hD1
    rw [(gy_sv0 ha).2] at h2
    rw [(gy_sv0 (e := 0) ha).1]
    exact br_t rfl h2
  · rw [(gy_sv1 (e := 0) ha).1]
    rw [(gy_sv1 ha).2] at h
    refine gz_be a (-1000000) (fun e => absurd e (by omega)) (fun _ => ?_)
    have hj3 : j = 0 ∨ j = 1 ∨ j = 2 := by omega
    rcases hj3 with rfl | rfl | rfl
    · exact br_f (by decide) (br_t rfl (h D1 hD1))
    · exact br_t (by decide) (br_t rfl (br_t rfl (gy_yf hw hD1 hs hH hB ha (fun D2 hD2 => br_t rfl (h D2 hD2)))))
    · exact br_t (by decide) (br_t rfl (br_t rfl (gy_yf hw hD1 hs hH hB ha (fun D2 hD2 => br_f (by decide) (gy_zq hw hD2 hs hH hB ha (fun D3 hD3 => h D3 hD3))))))
theorem gy_co1 (hw : gz_sw n w) (hD : gz_cw n w D)
    (hs : ∀ v, gz_Sp (gz_B a p q b s c) v ↔ gz_Sp (gz_R w (-1) n) v) (hH : gz_H a p q b s c) (hB : gz_Bd a p q b s c) (j : Nat) (hj : j < 3)
    (h : ∀ D', gz_cw n w D' → post (gy_cv b (gy_en a p q b s c 1 j)) (nI n, ff, fl, D')) : wpY_corner post (nI n, ff, fl, D) 1 (nI j) := by
  have g1 := hH.2.2.1
  have k1 := hB.2.1
  refine br_f (by decide) (br_f (by decide) (br_f (nI_pos (by omega)) (br_t (nI_le (b := 2) (by omega) (by decide)) (gy_s1 hw hD hs hH ?_))))
  intro D1 hD1
  by_cases ha : b = 0
  · have h2 := h D1 hD1
    rw [(gy_sv0 ha).2] at h2
    rw [(gy_sv0 (e := 0) ha).1]
    exact br_t rfl h2
  · rw [(gy_sv1 (e := 0) ha).1]
    rw [(gy_sv1 ha).2] at h
    refine gz_be b (-1000000) (fun e => absurd e (by omega)) (fun _ => ?_)
    have hj3 : j = 0 ∨ j = 1 ∨ j = 2 := by omega
    rcases hj3 with rfl | rfl | rfl
    · exact br_f (by decide) (br_f (by decide) (h D1 hD1))
    · exact br_f (by decide) (br_t rfl (h D1 hD1))
    · exact br_t (by decide) (br_f (by decide) (br_f (by decide) (br_f (by decide) (gy_zs hw hD1 hs hH hB ha (fun D3 hD3 => h D3 hD3)))))
theorem gy_co2 (hw : gz_sw n w) (hD : gz_cw n w D)
    (hs : ∀ v, gz_Sp (gz_B a p q b s c) v ↔ gz_Sp (gz_R w (-1) n) v) (hH : gz_H a p q b s c) (hB : gz_Bd a p q b s c) (j : Nat) (hj : j < 3)
    (h : ∀ D', gz_cw n w D' → post (gy_cv c (gy_en a p q b s c 2 j)) (nI n, ff, fl, D')) : wpY_corner post (nI n, ff, fl, D) 2 (nI j) := by
  have g1 := hH.2.2.2.1
  have k1 := hB.2.2.1
  refine br_f (by decide) (br_f (by decide) (br_f (nI_pos (by omega)) (br_t (nI_le (b := 2) (by omega) (by decide)) (gy_s2s hw hD hs hH ?_))))
  intro D1 hD1
  by_cases ha : c = 0
  · have h2 := h D1 hD1
    rw [(gy_sv0 ha).2] at h2
    rw [(gy_sv0 (e := 0) ha).1]
    exact br_t rfl h2
  · rw [(gy_sv1 (e := 0) ha).1]
    rw [(gy_sv1 ha).2] at h
    refine gz_be c (-1000000) (fun e => absurd e (by omega)) (fun _ => ?_)
    have hj3 : j = 0 ∨ j = 1 ∨ j = 2 := by omega
    rcases hj3 with rfl | rfl | rfl
    · exact br_f (by decide) (br_f (by decide) (h D1 hD1))
    · exact br_f (by decide) (br_f (by decide) (h D1 hD1))
    · exact br_f (by decide) (br_t rfl (h D1 hD1))
end
