/-! factors -/
/-- how long the runs from p and from q are alike, within n (with fuel) -/
def crk (t : Nat → Nat) (n : Nat) : Nat → Nat → Nat → Nat
  | _, _, 0 => 0
  | p, q, k + 1 => if p < n ∧ t p = t q then crk t n (p + 1) (q + 1) k + 1 else 0
def cr (t : Nat → Nat) (n p q : Nat) : Nat := crk t n p q (n - p)
theorem cr_s (t : Nat → Nat) (n p q : Nat) : cr t n p q = if p < n ∧ t p = t q then cr t n (p + 1) (q + 1) + 1 else 0 := by
  unfold cr
  by_cases h : p < n
  · obtain ⟨k, hk⟩ : ∃ k, n - p = k + 1 := ⟨n - p - 1, by omega⟩
    rw [hk, show n - (p + 1) = k by omega]
    rfl
  · rw [show n - p = 0 by omega, if_neg (fun z => h z.1)]
    rfl
theorem cr_le : ∀ (k : Nat) (t : Nat → Nat) (n p q : Nat), n - p = k → cr t n p q ≤ n - p := by
  intro k
  induction k with
  | zero => intro t n p q h; rw [cr_s, if_neg (fun z => by omega)]; omega
  | succ k ih =>
    intro t n p q h
    rw [cr_s]
    split
    · have := ih t n (p + 1) (q + 1) (by omega)
      omega
    · omega
theorem alike_m {τ : SS} {t : Nat → Nat} {n p q : Nat} (h : Tm τ t n) (hqp : q < p) (hp : p ≤ n) : f_m_X12_alike τ (nI p) (nI q) = some (nI (cr t n p q), τ) := by
  have hn := h.2.1
  unfold f_m_X12_alike
  refine L3_rule (I := fun k τ1 x1 x2 x3 => ∃ i, p + i + k = n ∧ x1 = nI p ∧ x2 = nI q ∧ x3 = nI i ∧ τ1 = τ ∧ cr t n p q = i + cr t n (p + i) (q + i)) (O := fun o => o = some (nI (cr t n p q), τ)) ?_ FUEL (n - p) τ _ _ _ (by unfold FUEL; omega) ⟨0, by omega, rfl, rfl, i_0, rfl, by rw [Nat.add_zero, Nat.add_zero, Nat.zero_add]⟩
  rintro g k τ1 x1 x2 x3 ⟨i, hi, rfl, rfl, rfl, rfl, he⟩ ih
  unfold f_m_X12_alike_2
  rw [h.1, nI_add, nI_add]
  by_cases z : p + i < n
  · have t1 := h.2.2 (p + i) z
    have t2 := h.2.2 (q + i) (by omega)
    rw [if_neg (fun y => nI_ge z (by omega) y), gd_nI (show p + i < 400 by omega) (by decide), gd_nI (show q + i < 400 by omega) (by decide), nI_clamp (by omega), nI_clamp (by omega), t1.2, t2.2, nI_1]
    by_cases e : t (p + i) = t (q + i)
    · rw [if_pos (by rw [e])]
      refine ih (k - 1) _ _ _ _ (by omega) ⟨i + 1, by omega, rfl, rfl, rfl, rfl, ?_⟩
      rw [cr_s t n (p + i) (q + i), if_pos ⟨z, e⟩] at he
      rw [he, show p + (i + 1) = p + i + 1 by omega, show q + (i + 1) = q + i + 1 by omega]; omega
    · rw [if_neg (fun y => e ((nI_eq (by omega) (by omega)).mp y))]
      rw [cr_s t n (p + i), if_neg (fun y => e y.2)] at he
      rw [he, Nat.add_zero]
  · rw [if_pos (nI_le (by omega) (by omega))]
    rw [cr_s t n (p + i), if_neg (fun y => z y.1)] at he
    rw [he, Nat.add_zero]
theorem common_c {σ : SS} {t : Nat → Nat} {n p q : Nat} (h : Tc σ t n) (hqp : q < p) (hp : p ≤ n) : f_c_X2_commonRun σ (nI q) (nI p) = some (nI (cr t n p q), σ) := by
  have hn := h.2.1
  unfold f_c_X2_commonRun
  refine L3_rule (I := fun k τ1 x1 x2 x3 => ∃ i, p + i + k = n ∧ x1 = nI q ∧ x2 = nI p ∧ x3 = nI i ∧ τ1 = σ ∧ cr t n p q = i + cr t n (p + i) (q + i)) (O := fun o => o = some (nI (cr t n p q), σ)) ?_ FUEL (n - p) σ _ _ _ (by unfold FUEL; omega) ⟨0, by omega, rfl, rfl, i_0, rfl, by rw [Nat.add_zero, Nat.add_zero, Nat.zero_add]⟩
  rintro g k σ1 x1 x2 x3 ⟨i, hi, rfl, rfl, rfl, rfl, he⟩ ih
  unfold f_c_X2_commonRun_2
  rw [h.1, nI_add, nI_add]
  by_cases z : p + i < n
  · have t1 := h.2.2.1 (p + i) z
    have t2 := h.2.2.1 (q + i) (by omega)
    rw [if_neg (fun y => nI_ge z (by omega) y), gd_nI (show q + i < 400 by omega) (by decide), gd_nI (show p + i < 400 by omega) (by decide), nI_clamp (by omega), nI_clamp (by omega), t1.2, t2.2, nI_1]
    by_cases e : t (p + i) = t (q + i)
    · rw [if_pos (by rw [e])]
      refine ih (k - 1) _ _ _ _ (by omega) ⟨i + 1, by omega, rfl, rfl, rfl, rfl, ?_⟩
      rw [cr_s t n (p + i) (q + i), if_pos ⟨z, e⟩] at he
      rw [he, show p + (i + 1) = p + i + 1 by omega, show q + (i + 1) = q + i + 1 by omega]; omega
    · rw [if_neg (fun y => e ((nI_eq (by omega) (by omega)).mp y).symm)]
      rw [cr_s t n (p + i), if_neg (fun y => e y.2)] at he
      rw [he, Nat.add_zero]
  · rw [if_pos (nI_le (by omega) (by omega))]
    rw [cr_s t n (p + i), if_neg (fun y => z y.1)] at he
    rw [he, Nat.add_zero]
/-- the longest among the first m places, and the least such place -/
def bst (t : Nat → Nat) (n p : Nat) : Nat → Nat
  | 0 => 0
  | m + 1 => if bst t n p m < cr t n p m then cr t n p m else bst t n p m
def fro (t : Nat → Nat) (n p : Nat) : Nat → Int32
  | 0 => -2
  | m + 1 => if bst t n p m < cr t n p m then nI m else fro t n p m
theorem bst_s (t : Nat → Nat) (n p m : Nat) : bst t n p (m + 1) = if bst t n p m < cr t n p m then cr t n p m else bst t n p m := rfl
theorem fro_s (t : Nat → Nat) (n p m : Nat) : fro t n p (m + 1) = if bst t n p m < cr t n p m then nI m else fro t n p m := rfl
theorem bst_le (t : Nat → Nat) (n p m : Nat) : bst t n p m ≤ n - p := by
  induction m with
  | zero => exact Nat.zero_le _
  | succ m ih =>
    rw [bst_s]
    have := cr_le (n - p) t n p m rfl
    split <;> omega
/-- a factor's length; where the factors are -/
def fl (t : Nat → Nat) (n p : Nat) : Nat := if bst t n p p = 0 then 1 else bst t n p p
def Pf (t : Nat → Nat) (n : Nat) : Nat → Nat
  | 0 => 0
  | i + 1 => Pf t n i + fl t n (Pf t n i)
theorem fl_pos (t : Nat → Nat) (n p : Nat) : 1 ≤ fl t n p := by unfold fl; split <;> omega
theorem Pf_s (t : Nat → Nat) (n i : Nat) : Pf t n (i + 1) = Pf t n i + fl t n (Pf t n i) := rfl
theorem Pf_ge (t : Nat → Nat) (n i : Nat) : i ≤ Pf t n i := by
  induction i with
  | zero => exact Nat.zero_le _
  | succ i ih => rw [Pf_s]; have := fl_pos t n (Pf t n i); omega
theorem Pf_mono {t : Nat → Nat} {n i j : Nat} (h : i ≤ j) : Pf t n i ≤ Pf t n j := by
  induction j with
  | zero => have : i = 0 := by omega
            rw [this]; exact Nat.le_refl _
  | succ j ih =>
    by_cases e : i = j + 1
    · rw [e]; exact Nat.le_refl _
    · have := ih (by omega)
      rw [Pf_s]; omega
/-- a cut into m pieces: places, lengths, sources in three rows -/
def Cut (P : Nat → Nat) (len : Nat → Nat) (src : Nat → Int32) (m : Nat) (a b c : Nat → Int32) : Prop := ∀ i, i < m → a i = nI (P i) ∧ b i = nI (len i) ∧ c i = src i
def FaN (t : Nat → Nat) (n m : Nat) : Prop := n ≤ Pf t n m ∧ ∀ i, i < m → Pf t n i < n
theorem FaN_eq {t : Nat → Nat} {n m m' : Nat} (h : FaN t n m) (h' : FaN t n m') : m = m' := by
  rcases Nat.lt_trichotomy m m' with q | q | q
  · have := h'.2 m q; have := h.1; omega
  · exact q
  · have := h.2 m' q; have := h'.1; omega
def Fa (σ : SS) (t : Nat → Nat) (n : Nat) : Prop := ∃ m, FaN t n m ∧ σ.1 9 = nI m ∧ Cut (Pf t n) (fun i => fl t n (Pf t n i)) (fun i => fro t n (Pf t n i) (Pf t n i)) m (σ.2 13) (σ.2 14) (σ.2 15)
theorem Fa.fr {I A : List Nat} {σ σ' : SS} {t : Nat → Nat} {n : Nat} (h : Fa σ t n) (f : fr I A σ σ') (h0 : 9 ∉ I) (h1 : 13 ∉ A ∧ 14 ∉ A ∧ 15 ∉ A) : Fa σ' t n := by
  obtain ⟨m, a, b, c⟩ := h
  exact ⟨m, a, (f.1 9 h0).trans b, by rw [f.2 13 h1.1, f.2 14 h1.2.1, f.2 15 h1.2.2]; exact c⟩
theorem addFactor_c {σ : SS} {t : Nat → Nat} {n p m : Nat} (h : Tc σ t n) (hp : p < n) (hm : σ.1 9 = nI m) (hm4 : m < 400) :
    ∃ σ', f_c_X2_addFactor σ (nI p) = some ((), σ') ∧ fr [9] [13, 14, 15] σ σ' ∧ σ'.1 9 = nI (m + 1) ∧ σ'.2 13 = upd (σ.2 13) m (nI p) ∧ σ'.2 14 = upd (σ.2 14) m (nI (fl t n p)) ∧ σ'.2 15 = upd (σ.2 15) m (fro t n p p) := by
  have hn := h.2.1
  unfold f_c_X2_addFactor
  refine L4_rule (I := fun k σ1 x1 x2 x3 x4 => ∃ i, i + k = p ∧ x1 = nI p ∧ x2 = nI (bst t n p i) ∧ x3 = fro t n p i ∧ x4 = nI i ∧ σ1 = σ) (O := fun o => ∃ σ', o = some ((), σ') ∧ fr [9] [13, 14, 15] σ σ' ∧ σ'.1 9 = nI (m + 1) ∧ σ'.2 13 = upd (σ.2 13) m (nI p) ∧ σ'.2 14 = upd (σ.2 14) m (nI (fl t n p)) ∧ σ'.2 15 = upd (σ.2 15) m (fro t n p p)) ?_ FUEL p σ _ _ _ _ (by unfold FUEL; omega) ⟨0, by omega, rfl, i_0, rfl, i_0, rfl⟩
  rintro g k σ1 x1 x2 x3 x4 ⟨i, hi, rfl, rfl, rfl, rfl, rfl⟩ ih
  have hb := bst_le t n p i
  have hc := cr_le (n - p) t n p i rfl
  unfold f_c_X2_addFactor_9
  by_cases q : i < p
  · rw [if_neg (fun y => nI_ge q (by omega) y), common_c h q (by omega), bd_s, nI_1]
    by_cases e : bst t n p i < cr t n p i
    · rw [if_neg (fun y => by have := (nI_leI (by omega) (by omega)).mp y; omega)]
      exact ih (k - 1) _ _ _ _ _ (by omega) ⟨i + 1, by omega, rfl, by rw [bst_s, if_pos e], by rw [fro_s, if_pos e], rfl, rfl⟩
    · rw [if_pos (nI_le (by omega) (by omega))]
      exact ih (k - 1) _ _ _ _ _ (by omega) ⟨i + 1, by omega, rfl, by rw [bst_s, if_neg e], by rw [fro_s, if_neg e], rfl, rfl⟩
  · have hip : i = p := by omega
    subst hip
    rw [if_pos (nI_le (Nat.le_refl _) (by omega))]
    have hfl : (if nI (bst t n i i) < (1 : Int32) then (1 : Int32) else nI (bst t n i i)) = nI (fl t n i) := by
      unfold fl
      by_cases z : bst t n i i = 0
      · rw [if_pos z, z, i_1, if_pos (nI_lt (by decide) (by decide))]
      · rw [if_neg z, i_1, if_neg (nI_nlt (by omega) (by omega))]
    rw [hfl]
    unfold f_c_X7_add_20
    rw [hm, gd_nI hm4 (by decide), nI_clamp (by omega)]
    rw [show (putA σ1 13 m (nI i)).1 9 = nI m from hm, gd_nI hm4 (by decide), nI_clamp (by omega)]
    rw [show (putA (putA σ1 13 m (nI i)) 14 m (nI (fl t n i))).1 9 = nI m from hm, gd_nI hm4 (by decide), nI_clamp (by omega)]
    rw [show (putA (putA (putA σ1 13 m (nI i)) 14 m (nI (fl t n i))) 15 m (fro t n i i)).1 9 = nI m from hm, bd_s, nI_1]
    exact ⟨_, rfl, (((((fr.rf σ1).pA (by decide)).pA (by decide)).pA (by decide)).pI (by decide)), rfl, rfl, rfl, rfl⟩
theorem follow_f {σ : SS} {t : Nat → Nat} {n : Nat} (h : Tc σ t n) (hs : σ.1 10 = σ.1 1 → Fa σ t n) :
    ∃ σ', f_c_X7_follow_20 σ = some ((), σ') ∧ fr [9, 10] [13, 14, 15] σ σ' ∧ Fa σ' t n ∧ σ'.1 10 = σ.1 1 := by
  have hn := h.2.1
  unfold f_c_X7_follow_20
  by_cases q : σ.1 10 = σ.1 1
  · rw [if_pos q]
    exact ⟨σ, rfl, fr.rf σ, hs q, q⟩
  · rw [if_neg q]
    unfold f_c_X2_cut
    have f0 : fr [9, 10] [13, 14, 15] σ (putI (putI σ 10 (σ.1 1)) 9 0) := ((fr.rf σ).pI (by decide)).pI (by decide)
    have main : ∃ σ', L2 f_c_X2_cut_4 FUEL (putI (putI σ 10 (σ.1 1)) 9 0) 0 0 = some ((), σ') ∧ fr [9, 10] [13, 14, 15] σ σ' ∧ Fa σ' t n ∧ σ'.1 10 = σ.1 1 := by
      refine L2_rule (I := fun k σ1 x1 x2 => ∃ p m, p + k = n ∧ x1 = nI (Pf t n m) ∧ x2 = nI p ∧ p ≤ Pf t n m ∧ Pf t n m ≤ n ∧ (∀ i, i < m → Pf t n i < p) ∧ fr [9, 10] [13, 14, 15] σ σ1 ∧ σ1.1 10 = σ.1 1 ∧ σ1.1 9 = nI m ∧ Cut (Pf t n) (fun i => fl t n (Pf t n i)) (fun i => fro t n (Pf t n i) (Pf t n i)) m (σ1.2 13) (σ1.2 14) (σ1.2 15)) (O := fun o => ∃ σ', o = some ((), σ') ∧ fr [9, 10] [13, 14, 15] σ σ' ∧ Fa σ' t n ∧ σ'.1 10 = σ.1 1) ?_ FUEL n _ _ _ (by unfold FUEL; omega) ⟨0, 0, by omega, i_0, i_0, Nat.le_refl _, Nat.zero_le _, fun i hi => absurd hi (Nat.not_lt_zero i), f0, rfl, i_0, fun i hi => absurd hi (Nat.not_lt_zero i)⟩
      rintro g k σ1 x1 x2 ⟨p, m, hp, rfl, rfl, hpm, hPn, hlt, f1, h10, h9, hc⟩ ih
      have h1 := h.fr f1 (by decide) (by decide) (by decide)
      have hmm := Pf_ge t n m
      unfold f_c_X2_cut_4
      rw [h1.1]
      by_cases z : p < n
      · rw [if_neg (fun y => nI_ge z (by omega) y), nI_1]
        by_cases e : p = Pf t n m
        · subst e
          rw [if_pos rfl]
          obtain ⟨σ2, e2, f2, n2, a2, b2, c2⟩ := addFactor_c h1 z h9 (by omega)
          have hfl : Pf t n m + fl t n (Pf t n m) ≤ n := by
            have := bst_le t n (Pf t n m) (Pf t n m)
            unfold fl; split <;> omega
          rw [e2, bd_s, n2, nI_pred, gd_nI (show m < 400 by omega) (by decide), nI_clamp (by omega), show σ2.2 14 m = nI (fl t n (Pf t n m)) from by rw [b2, upd_at, if_pos rfl], nI_add]
          refine ih (k - 1) _ _ _ (by omega) ⟨Pf t n m + 1, m + 1, by omega, rfl, rfl, by rw [Pf_s]; have := fl_pos t n (Pf t n m); omega, hfl, fun i hi => ?_, f1.tr (f2.up (by decide) (by decide)), by rw [f2.1 10 (by decide)]; exact h10, n2, fun i hi => ?_⟩
          · by_cases y : i = m
            · rw [y]; omega
            · have := hlt i (by omega); omega
          · rw [a2, b2, c2, upd_at, upd_at, upd_at]
            by_cases y : i = m
            · rw [if_pos y, if_pos y, if_pos y, y]; exact ⟨rfl, rfl, rfl⟩
            · rw [if_neg y, if_neg y, if_neg y]; exact hc i (by omega)
        · rw [if_neg (fun y => e ((nI_eq (by omega) (by omega)).mp y))]
          exact ih (k - 1) _ _ _ (by omega) ⟨p + 1, m, by omega, rfl, rfl, by omega, hPn, fun i hi => by have := hlt i hi; omega, f1, h10, h9, hc⟩
      · have : p = n := by omega
        subst this
        rw [if_pos (nI_le (Nat.le_refl _) (by omega))]
        exact ⟨σ1, rfl, f1, ⟨m, ⟨hpm, hlt⟩, h9, hc⟩, h10⟩
    obtain ⟨σ', e, a, b, c⟩ := main
    rw [e, bd_s]
    exact ⟨σ', rfl, a, b, c⟩
theorem put_m {τ : SS} {m : Nat} (x y z : Int32) (hm : τ.1 6 = nI m) (hm4 : m < 400) : ∃ τ', f_m_X12_put τ x y z = some ((), τ') ∧ fr [6] [8, 9, 10] τ τ' ∧ τ'.1 6 = nI (m + 1) ∧ τ'.2 8 = upd (τ.2 8) m x ∧ τ'.2 9 = upd (τ.2 9) m y ∧ τ'.2 10 = upd (τ.2 10) m z := by
  unfold f_m_X12_put
  rw [hm, gd_nI hm4 (by decide), nI_clamp (by omega)]
  rw [show (putA τ 8 m x).1 6 = nI m from hm, gd_nI hm4 (by decide), nI_clamp (by omega)]
  rw [show (putA (putA τ 8 m x) 9 m y).1 6 = nI m from hm, gd_nI hm4 (by decide), nI_clamp (by omega)]
  rw [show (putA (putA (putA τ 8 m x) 9 m y) 10 m z).1 6 = nI m from hm, nI_1]
  exact ⟨_, rfl, (((((fr.rf τ).pA (by decide)).pA (by decide)).pA (by decide)).pI (by decide)), rfl, rfl, rfl, rfl⟩
theorem findFactors_m {τ : SS} {t : Nat → Nat} {n : Nat} (h : Tm τ t n) : ∃ τ' m, f_m_X12_findFactors τ = some ((), τ') ∧ fr [6] [8, 9, 10] τ τ' ∧ FaN t n m ∧ τ'.1 6 = nI m ∧ Cut (Pf t n) (fun i => fl t n (Pf t n i)) (fun i => fro t n (Pf t n i) (Pf t n i)) m (τ'.2 8) (τ'.2 9) (τ'.2 10) := by
  have hn := h.2.1
  unfold f_m_X12_findFactors
  refine L1_rule (I := fun k τ1 x1 => ∃ m, m + k = n ∧ x1 = nI (Pf t n m) ∧ Pf t n m ≤ n ∧ (∀ i, i < m → Pf t n i < n) ∧ fr [6] [8, 9, 10] τ τ1 ∧ τ1.1 6 = nI m ∧ Cut (Pf t n) (fun i => fl t n (Pf t n i)) (fun i => fro t n (Pf t n i) (Pf t n i)) m (τ1.2 8) (τ1.2 9) (τ1.2 10)) (O := fun o => ∃ τ' m, o = some ((), τ') ∧ fr [6] [8, 9, 10] τ τ' ∧ FaN t n m ∧ τ'.1 6 = nI m ∧ Cut (Pf t n) (fun i => fl t n (Pf t n i)) (fun i => fro t n (Pf t n i) (Pf t n i)) m (τ'.2 8) (τ'.2 9) (τ'.2 10)) ?_ FUEL n (putI τ 6 0) 0 (by unfold FUEL; omega) ⟨0, by omega, i_0, Nat.zero_le _, fun i hi => absurd hi (Nat.not_lt_zero i), (fr.rf τ).pI (by decide), i_0, fun i hi => absurd hi (Nat.not_lt_zero i)⟩
  rintro g k τ1 x1 ⟨m, hm, rfl, hPn, hlt, f1, h6, hc⟩ ih
  have h1 := h.fr f1 (by decide) (by decide)
  have hmm := Pf_ge t n m
  unfold f_m_X12_findFactors_7
  rw [h1.1]
  by_cases z : Pf t n m < n
  · rw [if_neg (fun y => nI_ge z (by omega) y)]
    have hfl : Pf t n m + fl t n (Pf t n m) ≤ n := by
      have := bst_le t n (Pf t n m) (Pf t n m)
      unfold fl; split <;> omega
    have fin : ∃ τ2, f_m_X12_findFactors_81 g τ1 (nI (Pf t n m)) (nI (bst t n (Pf t n m) (Pf t n m))) (fro t n (Pf t n m) (Pf t n m)) (nI (Pf t n m)) (nI (fl t n (Pf t n m))) = g τ2 (nI (Pf t n (m + 1))) ∧ fr [6] [8, 9, 10] τ1 τ2 ∧ τ2.1 6 = nI (m + 1) ∧ τ2.2 8 = upd (τ1.2 8) m (nI (Pf t n m)) ∧ τ2.2 9 = upd (τ1.2 9) m (nI (fl t n (Pf t n m))) ∧ τ2.2 10 = upd (τ1.2 10) m (fro t n (Pf t n m) (Pf t n m)) := by
      obtain ⟨τ2, e2, f2, n2, a2, b2, c2⟩ := put_m (nI (Pf t n m)) (nI (fl t n (Pf t n m))) (fro t n (Pf t n m) (Pf t n m)) h6 (by omega)
      unfold f_m_X12_findFactors_81
      rw [e2, bd_s]
      refine ⟨τ2, ?_, f2, n2, a2, b2, c2⟩
      rw [Pf_s]
      have hb := bst_le t n (Pf t n m) (Pf t n m)
      unfold fl
      by_cases y : bst t n (Pf t n m) (Pf t n m) = 0
      · rw [if_pos y, if_pos (by rw [y, ← i_0]), nI_1]
      · rw [if_neg y, if_neg (by rw [i_0]; exact fun w => y ((nI_eq (by omega) (by decide)).mp w)), nI_add]
    obtain ⟨τ2, e2, f2, n2, a2, b2, c2⟩ := fin
    have inner : L4 (f_m_X12_findFactors_23 g) FUEL τ1 (nI (Pf t n m)) 0 (-2) 0 = g τ2 (nI (Pf t n (m + 1))) := by
      refine L4_rule (I := fun k2 τ3 x1 x2 x3 x4 => ∃ i, i + k2 = Pf t n m ∧ x1 = nI (Pf t n m) ∧ x2 = nI (bst t n (Pf t n m) i) ∧ x3 = fro t n (Pf t n m) i ∧ x4 = nI i ∧ τ3 = τ1) (O := fun o => o = g τ2 (nI (Pf t n (m + 1)))) ?_ FUEL (Pf t n m) τ1 _ _ _ _ (by unfold FUEL; omega) ⟨0, by omega, rfl, i_0, rfl, i_0, rfl⟩
      rintro g2 k2 τ3 x1 x2 x3 x4 ⟨i, hi, rfl, rfl, rfl, rfl, rfl⟩ ih2
      have hb := bst_le t n (Pf t n m) i
      have hcr := cr_le (n - Pf t n m) t n (Pf t n m) i rfl
      unfold f_m_X12_findFactors_23 f_m_X12_findFactors_50
      by_cases q : i < Pf t n m
      · rw [if_neg (fun y => nI_ge q (by omega) y), alike_m h1 q (by omega), bd_s, nI_1]
        by_cases e : bst t n (Pf t n m) i < cr t n (Pf t n m) i
        · have hne : ¬ nI (cr t n (Pf t n m) i) ≤ nI (bst t n (Pf t n m) i) := fun y => by have := (nI_leI (by omega) (by omega)).mp y; omega
          rw [if_neg hne, if_neg hne]
          exact ih2 (k2 - 1) _ _ _ _ _ (by omega) ⟨i + 1, by omega, rfl, by rw [bst_s, if_pos e], by rw [fro_s, if_pos e], rfl, rfl⟩
        · have hle : nI (cr t n (Pf t n m) i) ≤ nI (bst t n (Pf t n m) i) := nI_le (by omega) (by omega)
          rw [if_pos hle, if_pos hle]
          exact ih2 (k2 - 1) _ _ _ _ _ (by omega) ⟨i + 1, by omega, rfl, by rw [bst_s, if_neg e], by rw [fro_s, if_neg e], rfl, rfl⟩
      · have hip : i = Pf t n m := by omega
        rw [hip, if_pos (nI_le (Nat.le_refl _) (by omega))]
        have hb2 := bst_le t n (Pf t n m) (Pf t n m)
        unfold fl at e2
        by_cases y : bst t n (Pf t n m) (Pf t n m) = 0
        · rw [if_pos y, ← i_1] at e2
          rw [if_pos (by rw [y, ← i_0])]; exact e2
        · rw [if_neg y] at e2
          rw [if_neg (by rw [i_0]; exact fun w => y ((nI_eq (by omega) (by decide)).mp w))]; exact e2
    rw [inner]
    refine ih (k - 1) _ _ (by omega) ⟨m + 1, by omega, rfl, by rw [Pf_s]; exact hfl, fun i hi => ?_, f1.tr f2, n2, fun i hi => ?_⟩
    · by_cases y : i = m
      · rw [y]; exact z
      · exact hlt i (by omega)
    · rw [a2, b2, c2, upd_at, upd_at, upd_at]
      by_cases y : i = m
      · rw [if_pos y, if_pos y, if_pos y, y]; exact ⟨rfl, rfl, rfl⟩
      · rw [if_neg y, if_neg y, if_neg y]; exact hc i (by omega)
  · rw [if_pos (nI_le (by omega) (by omega))]
    exact ⟨τ1, m, rfl, f1, ⟨by omega, hlt⟩, h6, hc⟩
