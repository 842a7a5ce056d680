/-! best words: the reference's whole walk -/
theorem L0w_s (t : Nat → Nat) (n s : Nat) : L0w t n (s + 1) = if 0 < cnt t s n then L0w t n s + 1 else L0w t n s := rfl
theorem f0w_s (t : Nat → Nat) (n s : Nat) : f0w t n (s + 1) = if 0 < cnt t s n then pl (f0w t n s) (L0w t n s) (cnt t s n) else f0w t n s := rfl
theorem m0w_s (t : Nat → Nat) (n s : Nat) : m0w t n (s + 1) = if 0 < cnt t s n then pl (m0w t n s) (L0w t n s) (2 ^ s) else m0w t n s := rfl
theorem f0w_bd {t : Nat → Nat} {n : Nat} : ∀ s j, s ≤ 16 → j < L0w t n s → f0w t n s j ≤ n ∧ 0 < f0w t n s j ∧ m0w t n s j < 2 ^ 16 := by
  intro s
  induction s with
  | zero => intro j _ hj; exact absurd hj (Nat.not_lt_zero j)
  | succ s ih =>
    intro j hs hj
    rw [L0w_s] at hj
    rw [f0w_s, m0w_s]
    by_cases p : 0 < cnt t s n
    · rw [if_pos p] at hj
      rw [if_pos p, if_pos p]
      unfold pl
      have hc := cnt_le t s n
      have hp : 2 ^ s < 2 ^ 16 := Nat.pow_lt_pow_right (by decide) (by omega)
      by_cases z : j < L0w t n s
      · rw [if_pos z, if_pos z]; exact ih j (by omega) z
      · rw [if_neg z, if_neg z]; exact ⟨hc, p, hp⟩
    · rw [if_neg p] at hj
      rw [if_neg p, if_neg p]; exact ih j (by omega) hj
theorem findWords_m {τ : SS} {t : Nat → Nat} {n : Nat} (h : Tm τ t n) : ∃ τ' wd, f_m_X12_findWords τ = some ((), τ') ∧ WT t n wd ∧ (∀ s, s < 16 → τ'.2 7 s = nI (wd s)) ∧ fr [4, 5] [5, 6, 7] τ τ' := by
  have hn := h.2.1
  have hLw := L0w_le t n 16
  -- from the planted trees on
  have rest : ∀ τ1 : SS, fr [4, 5] [5, 6, 7] τ τ1 → Mst τ1 (L0w t n 16) (f0w t n 16) (m0w t n 16) (fun _ => 0) → ∃ τ' wd, (if (τ1.1 4) = (1 : Int32) then L1 f_m_X12_findWords_82 FUEL τ1 0 else L0 f_m_X12_findWords_110 FUEL τ1) = some ((), τ') ∧ WT t n wd ∧ (∀ s, s < 16 → τ'.2 7 s = nI (wd s)) ∧ fr [4, 5] [5, 6, 7] τ τ' := by
    intro τ1 f1 hs
    have hB : 400 * 2 ^ L0w t n 16 ≤ 2 ^ 29 := by
      have : 2 ^ L0w t n 16 ≤ 2 ^ 16 := Nat.pow_le_pow_right (by decide) hLw
      omega
    have hfn : ∀ j, j < L0w t n 16 → f0w t n 16 j ≤ 400 := fun j hj => by
      have := (f0w_bd (t := t) (n := n) 16 j (Nat.le_refl 16) hj).1
      omega
    by_cases e : L0w t n 16 = 1
    · rw [if_pos (by rw [hs.1, e, ← i_1])]
      have hm : m0w t n 16 0 < 2 ^ 16 := (hs.2.2.1 0 (by omega)).2.2.2
      refine L1_rule (I := fun k τ2 x => ∃ i, i + k = 16 ∧ x = nI i ∧ fr [] [7] τ1 τ2 ∧ ∀ s, s < i → τ2.2 7 s = nI (bit (m0w t n 16 0) s)) (O := fun o => ∃ τ' wd, o = some ((), τ') ∧ WT t n wd ∧ (∀ s, s < 16 → τ'.2 7 s = nI (wd s)) ∧ fr [4, 5] [5, 6, 7] τ τ') ?_ FUEL 16 τ1 _ (by decide) ⟨0, rfl, i_0, fr.rf τ1, fun s hs => absurd hs (Nat.not_lt_zero s)⟩
      rintro g k τ2 x ⟨i, hi, rfl, f2, hv⟩ ih
      unfold f_m_X12_findWords_82
      by_cases q : i < 16
      · have h6 : τ2.2 6 0 = nI (m0w t n 16 0) := by rw [f2.2 6 (by decide)]; exact (hs.2.2.1 0 (by omega)).2.1
        rw [i_16, if_neg (fun z => nI_ge q (by decide) z), i_0, gd_nI (by decide) (by decide), gd_nI q (by decide), nI_clamp (by omega), nI_clamp (by decide), h6, bit_I (by omega) (by omega), nI_1]
        refine ih (k - 1) _ _ (by omega) ⟨i + 1, by omega, rfl, f2.pA (by decide), fun s hs' => ?_⟩
        show upd (τ2.2 7) _ _ s = _
        rw [upd_at]
        by_cases z : s = i
        · rw [if_pos z, z]
        · rw [if_neg z]; exact hv s (by omega)
      · have : i = 16 := by omega
        subst this
        rw [i_16, if_pos (nI_le (Nat.le_refl _) (by decide))]
        have hst : Mst τ2 1 (f0w t n 16) (m0w t n 16) (fun s => bit (m0w t n 16 0) s) := by
          refine ⟨by rw [f2.1 4 (by decide), hs.1, e], by decide, fun j hj => ?_, hv⟩
          rw [f2.2 5 (by decide), f2.2 6 (by decide)]
          exact hs.2.2.1 j (by omega)
        obtain ⟨τ3, wd', e3, w3, v3, f3⟩ := joins_m 1 τ2 _ _ _ 400 hst (by decide) (fun j hj => hfn j (by omega)) FUEL (by decide)
        rw [e3]
        refine ⟨τ3, wd', rfl, Or.inl ⟨e, ?_⟩, v3, (f1.tr (f2.up (by decide) (by decide))).tr f3⟩
        rcases w3 with ⟨-, w4⟩ | ⟨w4, -⟩
        · exact w4
        · exact absurd w4 (Nat.lt_irrefl 0)
    · rw [if_neg (by rw [hs.1, i_1]; exact fun z => e ((nI_eq (by omega) (by decide)).mp z))]
      obtain ⟨τ3, wd', e3, w3, v3, f3⟩ := joins_m _ τ1 _ _ _ 400 hs hB hfn FUEL (by unfold FUEL; omega)
      exact ⟨τ3, wd', e3, Or.inr ⟨e, w3⟩, v3, f1.tr f3⟩
  unfold f_m_X12_findWords
  refine L1_rule (I := fun k τ1 x => ∃ i, i + k = 16 ∧ x = nI i ∧ fr [4, 5] [5, 6, 7] τ τ1 ∧ τ1.1 4 = nI (L0w t n i) ∧ (∀ j, j < L0w t n i → τ1.2 5 j = nI (f0w t n i j) ∧ τ1.2 6 j = nI (m0w t n i j)) ∧ ∀ s, s < i → τ1.2 7 s = 0) (O := fun o => ∃ τ' wd, o = some ((), τ') ∧ WT t n wd ∧ (∀ s, s < 16 → τ'.2 7 s = nI (wd s)) ∧ fr [4, 5] [5, 6, 7] τ τ') ?_ FUEL 16 (putI τ 4 0) 0 (by decide) ⟨0, rfl, i_0, (fr.rf τ).pI (by decide), i_0, fun j hj => absurd hj (Nat.not_lt_zero j), fun s hs => absurd hs (Nat.not_lt_zero s)⟩
  rintro g k τ1 x ⟨i, hi, rfl, f1, h4, hv, hz⟩ ih
  unfold f_m_X12_findWords_7
  by_cases q : i < 16
  · have hLi := L0w_le t n i
    have fz : fr [4, 5] [5, 6, 7] τ (putA τ1 7 i 0) := f1.pA (by decide)
    have h1 : Tm (putA τ1 7 i 0) t n := h.fr fz (by decide) (by decide)
    have hc := cnt_le t i n
    rw [i_16, if_neg (fun z => nI_ge q (by decide) z), gd_nI q (by decide), nI_clamp (by omega), h1.1, often_m h1 q (Nat.le_refl n), bd_s, i_0]
    have hzero : ∀ τ2 : SS, (∀ s, τ2.2 7 s = (putA τ1 7 i (nI 0)).2 7 s) → ∀ s, s < i + 1 → τ2.2 7 s = 0 := by
      intro τ2 e s hs
      rw [e]
      show upd (τ1.2 7) _ _ s = _
      rw [upd_at]
      by_cases z : s = i
      · rw [if_pos z, ← i_0]
      · rw [if_neg z]; exact hz s (by omega)
    by_cases p : 0 < cnt t i n
    · rw [if_neg (fun z => nI_ge p (by omega) z)]
      rw [show (putA τ1 7 i (nI 0)).1 4 = nI (L0w t n i) from h4, gd_nI (show L0w t n i < 16 by omega) (by decide), nI_clamp (by omega)]
      rw [show (putA (putA τ1 7 i (nI 0)) 5 (L0w t n i) (nI (cnt t i n))).1 4 = nI (L0w t n i) from h4, gd_nI (show L0w t n i < 16 by omega) (by decide), nI_clamp (by omega), shl1 i (by omega)]
      rw [show (putA (putA (putA τ1 7 i (nI 0)) 5 (L0w t n i) (nI (cnt t i n))) 6 (L0w t n i) (nI (2 ^ i))).1 4 = nI (L0w t n i) from h4, nI_1, nI_1]
      refine ih (k - 1) _ _ (by omega) ⟨i + 1, by omega, rfl, ?_, ?_, fun j hj => ?_, hzero _ (fun s => rfl)⟩
      · exact ((((f1.pA (by decide)).pA (by decide)).pA (by decide)).pI (by decide))
      · rw [L0w_s, if_pos p]; rfl
      · rw [L0w_s, if_pos p] at hj
        rw [f0w_s, m0w_s, if_pos p, if_pos p]
        show upd (τ1.2 5) _ _ j = _ ∧ upd (τ1.2 6) _ _ j = _
        rw [upd_at, upd_at]
        unfold pl
        by_cases z : j = L0w t n i
        · rw [if_pos z, if_pos z, if_neg (by omega), if_neg (by omega)]; exact ⟨rfl, rfl⟩
        · rw [if_neg z, if_neg z, if_pos (by omega), if_pos (by omega)]; exact hv j (by omega)
    · rw [if_pos (nI_le (by omega) (by decide)), nI_1]
      refine ih (k - 1) _ _ (by omega) ⟨i + 1, by omega, rfl, f1.pA (by decide), ?_, fun j hj => ?_, hzero _ (fun s => rfl)⟩
      · rw [L0w_s, if_neg p]; exact h4
      · rw [L0w_s, if_neg p] at hj
        rw [f0w_s, m0w_s, if_neg p, if_neg p]
        exact hv j hj
  · have : i = 16 := by omega
    subst this
    rw [i_16, if_pos (nI_le (Nat.le_refl _) (by decide))]
    refine rest τ1 f1 ⟨h4, hLw, fun j hj => ?_, fun s hs => by rw [hz s hs]; exact i_0⟩
    have h9 := f0w_bd (t := t) (n := n) 16 j (Nat.le_refl 16) hj
    exact ⟨(hv j hj).1, (hv j hj).2, by omega, h9.2.2⟩
