/-! X: signs and ranges; the span of all rows -/
theorem gx_sa {post : Int64 → Prop} {rc lsq lsp : Int32} {C : Nat → Int32} {β ρ : Nat → Int64} {i : Nat} (hi : i < 3) (h : post (β (3 * i + i))) :
    wpX_stepAt post (rc, lsq, lsp, C, β, ρ) (nI i) := by
  refine And.intro (gx_vi3 (by omega) (by omega)) ?_
  show post (β (3 * nI i + nI i).toNatClampNeg)
  rw [gx_ad3 (a := i) (b := i) (by omega)]
  exact h
def gx_ng (i : Nat) (β : Nat → Int64) : Nat → Int64 := fun j => if 3 * i + i ≤ j ∧ j < 3 * i + 3 then -(β j) else β j
theorem gx_ni {c j : Nat} {β : Nat → Int64} (h : 3 * c + c ≤ j ∧ j < 3 * c + 3) : gx_ng c β j = -(β j) := if_pos h
theorem gx_no {c j : Nat} {β : Nat → Int64} (h : ¬ (3 * c + c ≤ j ∧ j < 3 * c + 3)) : gx_ng c β j = β j := if_neg h
theorem gx_msp {post : SX → Prop} {rc lsq lsp : Int32} {C : Nat → Int32} {β ρ : Nat → Int64} {B : Int} (i : Nat) (hi : i < 3) (hB : β (3 * i + i) = gz_l B) (hb : B.natAbs < 4294967296)
    (h1 : 0 ≤ B → post (rc, lsq, lsp, C, β, ρ)) (h2 : B < 0 → post (rc, lsq, lsp, C, gx_ng i β, ρ)) : wpX_makeStepPositive post (rc, lsq, lsp, C, β, ρ) (nI i) := by
  unfold wpX_makeStepPositive
  dsimp only
  refine gx_sa hi ?_
  rw [hB]
  refine gz_Ll 0 B h1 (fun hn => ?_)
  refine pk_loop (fun n k (s : Nat → Int64) => wX_makeStepPositive_12 post (nI i) rc lsq lsp n (nI k) C s ρ)
    (fun k s => i ≤ k ∧ ∀ j, s j = if 3 * i + i ≤ j ∧ j < 3 * i + k then -(β j) else β j) 3 i β (by omega) ⟨Nat.le_refl i, fun j => (if_neg (by omega)).symm⟩ ?_ ?_
  · intro n s ⟨_, hs⟩
    have e : s = gx_ng i β := funext hs
    rw [e]
    exact br_t (by decide) (h2 hn)
  · intro n k s hk ⟨h0, hs⟩ K
    have e1 : (3 * nI i + nI k).toNatClampNeg = 3 * i + k := gx_ad3 (by omega)
    have v1 : vp_in (3 * nI i + nI k) 9 := gx_vi3 (by omega) (by omega)
    refine br_f (nI_ge (b := 3) hk (by decide)) ⟨v1, v1, nm_e (nm_r (nI_1 k) (K _ ⟨by omega, fun j => ?_⟩))⟩
    rw [e1]
    by_cases hj : j = 3 * i + k
    · subst hj
      rw [pk_uLs, if_pos (by omega), hs, if_neg (by omega)]
    · rw [pk_uLn hj, hs]
      by_cases hq : 3 * i + i ≤ j ∧ j < 3 * i + k
      · rw [if_pos hq, if_pos (by omega)]
      · rw [if_neg hq, if_neg (by omega)]
def gx_rd (i c : Nat) (t : Int64) (β : Nat → Int64) : Nat → Int64 := fun j => if 3 * i + c ≤ j ∧ j < 3 * i + 3 then β j - t * β (3 * c + (j - 3 * i)) else β j
theorem gx_di {i c j : Nat} {t : Int64} {β : Nat → Int64} (h : 3 * i + c ≤ j ∧ j < 3 * i + 3) : gx_rd i c t β j = β j - t * β (3 * c + (j - 3 * i)) := if_pos h
theorem gx_do {i c j : Nat} {t : Int64} {β : Nat → Int64} (h : ¬ (3 * i + c ≤ j ∧ j < 3 * i + 3)) : gx_rd i c t β j = β j := if_neg h
theorem gx_redl {post : SX → Prop} {rc lsq lsp : Int32} {C : Nat → Int32} {β ρ : Nat → Int64} {t : Int64} (i c : Nat) (hi : i < c) (hc : c < 3) (h : post (rc, lsq, lsp, C, gx_rd i c t β, ρ)) :
    ∃ n, wX_reduceNumber_50 post (nI i) (nI c) t rc lsq lsp n (nI c) C β ρ := by
  refine pk_loop (fun n k (s : Nat → Int64) => wX_reduceNumber_50 post (nI i) (nI c) t rc lsq lsp n (nI k) C s ρ)
    (fun k s => c ≤ k ∧ ∀ j, s j = if 3 * i + c ≤ j ∧ j < 3 * i + k then β j - t * β (3 * c + (j - 3 * i)) else β j) 3 c β (by omega) ⟨Nat.le_refl c, fun j => (if_neg (by omega)).symm⟩ ?_ ?_
  · intro n s ⟨_, hs⟩
    have e : s = gx_rd i c t β := funext hs
    rw [e]
    exact br_t (by decide) h
  · intro n k s hk ⟨h0, hs⟩ K
    have e1 : (3 * nI i + nI k).toNatClampNeg = 3 * i + k := gx_ad3 (by omega)
    have e2 : (3 * nI c + nI k).toNatClampNeg = 3 * c + k := gx_ad3 (by omega)
    have v1 : vp_in (3 * nI i + nI k) 9 := gx_vi3 (by omega) (by omega)
    have v2 : vp_in (3 * nI c + nI k) 9 := gx_vi3 (by omega) (by omega)
    refine br_f (nI_ge (b := 3) hk (by decide)) ⟨v1, v2, v1, nm_e (nm_r (nI_1 k) (K _ ⟨by omega, fun j => ?_⟩))⟩
    rw [e1, e2]
    by_cases hj : j = 3 * i + k
    · subst hj
      rw [pk_uLs, if_pos (by omega), hs, if_neg (by omega), hs, if_neg (by omega)]
      congr 3
      omega
    · rw [pk_uLn hj, hs]
      by_cases hq : 3 * i + c ≤ j ∧ j < 3 * i + k
      · rw [if_pos hq, if_pos (by omega)]
      · rw [if_neg hq, if_neg (by omega)]
theorem gx_red {post : SX → Prop} {rc lsq lsp : Int32} {C : Nat → Int32} {β ρ : Nat → Int64} {d n : Int} (i c : Nat) (hi : i < c) (hc : c < 3)
    (hd : β (3 * c + c) = gz_l d) (hn : β (3 * i + c) = gz_l n) (h0 : 0 ≤ d) (hd2 : d.natAbs < 4294967296) (hn2 : n.natAbs < 4611686018427387904)
    (hz : d = 0 → post (rc, lsq, lsp, C, β, ρ)) (hp : ∀ t, 0 < d → gz_tm n d t → post (rc, lsq, lsp, C, gx_rd i c (gz_l t) β, ρ)) :
    wpX_reduceNumber post (rc, lsq, lsp, C, β, ρ) (nI i) (nI c) := by
  unfold wpX_reduceNumber
  dsimp only
  refine gx_sa hc ?_
  rw [hd]
  refine gz_Le d 0 hz (fun hne => ?_)
  have hne2 : ¬ gz_l d = 0 := fun e => hne ((gz_lE (b := 0)).1 e)
  have e1 : (3 * nI i + nI c).toNatClampNeg = 3 * i + c := gx_ad3 (by omega)
  refine ⟨gx_vi3 (by omega) (by omega), nm_r (by rw [e1, hn]) ⟨hne2, nm_r gz_lD ?_⟩⟩
  have hpos : 0 < d := by omega
  have ht := gz_tma (n := n) hpos
  have hm : gz_l (n.tdiv d) * gz_l d = gz_l (n.tdiv d * d) := gz_lm _ _
  rw [hm]
  have q1 : (n - n.tdiv d * d).natAbs < d.natAbs := by
    rw [gz_e1]
    exact Nat.mod_lt _ (by omega)
  refine gz_Ll (n.tdiv d * d) n (fun hle => gx_redl i c hi hc (hp _ hpos (ht.2 hle))) (fun hlt => nm_r (gz_ls _ 1) (gx_redl i c hi hc (hp _ hpos (ht.1 hlt))))
