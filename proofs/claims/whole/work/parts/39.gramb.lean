/-! grammar, rule, symbol: both sides alike -/
theorem gram_both {σ τ : SS} {t : Nat → Nat} {n : Nat} (h : Tc σ t n) (hm : Tm τ t n) (hc : σ.1 16 = σ.1 1 → Gr σ t n) (hG : Gm τ) : ∃ σ' τ' K, f_c_X3_follow σ = some ((), σ') ∧ f_m_X12_makeGrammar τ = some ((), τ') ∧ K ≤ 200 ∧ gR t n K ≤ 400 ∧ Gk σ' t n K ∧ GrM τ' t n K ∧ (σ'.1 16 = σ'.1 1 → Gr σ' t n) ∧ Gm τ' ∧ (σ'.1 16 = σ.1 16 ∨ σ'.1 16 = σ.1 1) ∧ fr [13, 14, 15, 16] [19, 20, 21, 22, 23, 24, 25, 26, 27] σ σ' ∧ fr [7, 8, 9] [11, 12, 13, 14] τ τ' := by
  obtain ⟨σ', e1, g1, v1, f1⟩ := follow_g h hc
  obtain ⟨τ', K', e2, g2, g3, f2⟩ := makeGrammar_m hm hG
  have g1' := g1
  obtain ⟨K, a1, a2⟩ := g1
  have : K = K' := GN_eq a1 g2.1
  subst this
  have hn := h.2.1
  obtain ⟨b1, -, -⟩ := gs_bd (t := t) (n := n) (fun i hi => (h.2.2.1 i hi).1) K a2.1
  exact ⟨σ', τ', K, e1, e2, by omega, by omega, a2, g2, fun _ => g1', g3, Or.inr v1, f1, f2⟩
theorem grammar_both {σ τ : SS} {t : Nat → Nat} {n : Nat} (h : Tc σ t n) (hm : Tm τ t n) (hc : σ.1 16 = σ.1 1 → Gr σ t n) (hG : Gm τ) (x : Int32) : ∃ r σ' τ', f_c_X11_grammar σ x = some (r, σ') ∧ f_m_X12_grammar τ x = some (r, τ') ∧ (σ'.1 16 = σ'.1 1 → Gr σ' t n) ∧ Gm τ' ∧ (σ'.1 16 = σ.1 16 ∨ σ'.1 16 = σ.1 1) ∧ fr [13, 14, 15, 16] [19, 20, 21, 22, 23, 24, 25, 26, 27] σ σ' ∧ fr [0, 7, 8, 9] [11, 12, 13, 14] τ τ' := by
  have f0 : fr [0] [] τ (putI τ 0 0) := (fr.rf τ).pI (by decide)
  unfold f_c_X11_grammar f_m_X12_grammar
  rw [wi_c, wi_m' _ x 0 2 (by decide) (by decide), bd_s, bd_s]
  by_cases hw : wi x 0 2 = 0
  · rw [if_pos hw, if_pos hw]
    exact ⟨_, _, _, rfl, rfl, hc, hG.fr f0 (by decide) (by decide), Or.inl rfl, fr.rf σ, f0.up (by decide) (by decide)⟩
  · rw [if_neg hw, if_neg hw]
    obtain ⟨σ', τ', K, e1, e2, b1, b2, k1, k2, g1, g2, s1, f1, f2⟩ := gram_both h (hm.fr f0 (by decide) (by decide)) hc (hG.fr f0 (by decide) (by decide))
    rw [e1, e2, bd_s, bd_s, k1.2.1, k1.2.2.1, k2.2.1, k2.2.2.1]
    have f3 := (f0.up (I' := [0, 7, 8, 9]) (A' := [11, 12, 13, 14]) (by decide) (by decide)).tr (f2.up (by decide) (by decide))
    by_cases q0 : x = 0
    · rw [if_pos q0, if_pos q0]; exact ⟨_, _, _, rfl, rfl, g1, g2, s1, f1, f3⟩
    · rw [if_neg q0, if_neg q0]
      by_cases q1 : x = 1
      · rw [if_pos q1, if_pos q1]; exact ⟨_, _, _, rfl, rfl, g1, g2, s1, f1, f3⟩
      · rw [if_neg q1, if_neg q1]; exact ⟨_, _, _, rfl, rfl, g1, g2, s1, f1, f3⟩
/-- a nonterminal -/
theorem wi_16 {x : Int32} {K : Nat} (hK : K ≤ 200) (h : ¬ wi x 16 (16 + nI K - 1) = 0) : ∃ j, j < K ∧ x - 16 = nI j := by
  rcases wi_or x 16 (16 + nI K - 1) with q | ⟨-, h1, h2⟩
  · exact absurd q h
  · have h16 : (16 : Int32).toInt = 16 := by decide
    rw [Int32.le_iff_toInt_le, h16] at h1
    have h00 : (0 : Int32).toInt = 0 := by decide
    have hneg : ¬ x < 0 := by rw [Int32.lt_iff_toInt_lt]; omega
    obtain ⟨j, hj, rfl⟩ := nI_of hneg
    rw [nI_toInt hj] at h1
    rw [i_16, nI_add, show 16 + K = 15 + K + 1 by omega, nI_pred] at h2
    have h3 := (nI_leI hj (by omega)).mp h2
    refine ⟨j - 16, by omega, ?_⟩
    have e : nI j = nI (j - 16) + nI 16 := by rw [nI_add]; congr 1; omega
    rw [e, i_16]
    grind
theorem rule_both {σ τ : SS} {t : Nat → Nat} {n : Nat} (h : Tc σ t n) (hm : Tm τ t n) (hc : σ.1 16 = σ.1 1 → Gr σ t n) (hG : Gm τ) (x y : Int32) : ∃ r σ' τ', f_c_X11_rule σ x y = some (r, σ') ∧ f_m_X12_rule τ x y = some (r, τ') ∧ (σ'.1 16 = σ'.1 1 → Gr σ' t n) ∧ Gm τ' ∧ (σ'.1 16 = σ.1 16 ∨ σ'.1 16 = σ.1 1) ∧ fr [13, 14, 15, 16] [19, 20, 21, 22, 23, 24, 25, 26, 27] σ σ' ∧ fr [0, 7, 8, 9] [11, 12, 13, 14] τ τ' := by
  have f0 : fr [0] [] τ (putI τ 0 0) := (fr.rf τ).pI (by decide)
  unfold f_c_X11_rule f_m_X12_rule
  obtain ⟨σ', τ', K, e1, e2, b1, b2, k1, k2, g1, g2, s1, f1, f2⟩ := gram_both h (hm.fr f0 (by decide) (by decide)) hc (hG.fr f0 (by decide) (by decide))
  have f3 := (f0.up (I' := [0, 7, 8, 9]) (A' := [11, 12, 13, 14]) (by decide) (by decide)).tr (f2.up (by decide) (by decide))
  rw [e1, bd_s, wi_c, bd_s, k1.2.2.1, isKind_m, bd_s]
  by_cases hy : wi y 0 1 = 0
  · rw [if_pos hy]
    refine ⟨-1, σ', _, ?_, rfl, g1, hG.fr f0 (by decide) (by decide), s1, f1, f0.up (by decide) (by decide)⟩
    by_cases hw : wi x 16 (16 + nI K - 1) = 0
    · rw [if_pos hw]
    · rw [if_neg hw, isSide_c, bd_s, if_pos hy]
  · rw [if_neg hy, e2, bd_s, k2.2.2.1, wi_m' _ x 16 (16 + nI K - 1) (by decide) rfl, bd_s]
    by_cases hw : wi x 16 (16 + nI K - 1) = 0
    · rw [if_pos hw, if_pos hw]
      exact ⟨_, _, _, rfl, rfl, g1, g2, s1, f1, f3⟩
    · rw [if_neg hw, if_neg hw, isSide_c, bd_s, if_neg hy]
      obtain ⟨j, j1, j2⟩ := wi_16 b1 hw
      rw [j2, gd_nI (show j < 200 by omega) (by decide), gd_nI (show j < 200 by omega) (by decide), gd_nI (show j < 200 by omega) (by decide), gd_nI (show j < 200 by omega) (by decide), nI_clamp (by omega), (k1.2.2.2.2 j j1).1, (k1.2.2.2.2 j j1).2, (k2.2.2.2.2 j j1).1, (k2.2.2.2.2 j j1).2]
      by_cases q0 : y = 0
      · rw [if_pos q0, if_pos q0]; exact ⟨_, _, _, rfl, rfl, g1, g2, s1, f1, f3⟩
      · rw [if_neg q0, if_neg q0]; exact ⟨_, _, _, rfl, rfl, g1, g2, s1, f1, f3⟩
theorem symbol_both {σ τ : SS} {t : Nat → Nat} {n : Nat} (h : Tc σ t n) (hm : Tm τ t n) (hc : σ.1 16 = σ.1 1 → Gr σ t n) (hG : Gm τ) (x : Int32) : ∃ r σ' τ', f_c_X3_follow σ = some ((), σ') ∧ f_m_X12_symbol τ x = some (r, τ') ∧ (σ'.1 16 = σ'.1 1 → Gr σ' t n) ∧ Gm τ' ∧ (σ'.1 16 = σ.1 16 ∨ σ'.1 16 = σ.1 1) ∧ fr [13, 14, 15, 16] [19, 20, 21, 22, 23, 24, 25, 26, 27] σ σ' ∧ fr [0, 7, 8, 9] [11, 12, 13, 14] τ τ' ∧ ((wi x 0 (σ'.1 14 - 1) = 0 ∧ τ'.1 0 = 1) ∨ (¬ wi x 0 (σ'.1 14 - 1) = 0 ∧ τ'.1 0 = 0 ∧ f_c_X11_symbol σ x = some (r, σ'))) := by
  unfold f_c_X11_symbol f_m_X12_symbol
  obtain ⟨σ', τ', K, e1, e2, b1, b2, k1, k2, g1, g2, s1, f1, f2⟩ := gram_both h hm hc hG
  rw [e1, e2, bd_s, bd_s, wi_c, bd_s, k1.2.1, k2.2.1, wi_m' _ x 0 (nI (gR t n K) - 1) (by decide) rfl, bd_s]
  unfold f_m_X12_symbol_26
  have fy : ∀ y : Int32, fr [0] [] τ' (putI τ' 0 y) := fun y => (fr.rf τ').pI (by decide)
  have f3 : ∀ y : Int32, fr [0, 7, 8, 9] [11, 12, 13, 14] τ (putI τ' 0 y) := fun y => (f2.up (by decide) (by decide)).pI (by decide)
  by_cases hw : wi x 0 (nI (gR t n K) - 1) = 0
  · rw [if_pos hw, if_neg (show ¬ (putI τ' 0 1).1 0 = 0 by show ¬ (1 : Int32) = 0; decide)]
    exact ⟨_, _, _, rfl, rfl, g1, g2.fr (fy 1) (by decide) (by decide), s1, f1, f3 1, Or.inl ⟨by rw [k1.2.1]; exact hw, rfl⟩⟩
  · obtain ⟨j, j1, rfl⟩ := wi_lt (by omega) hw
    rw [if_neg hw, if_neg hw, if_pos (show (putI τ' 0 0).1 0 = 0 from rfl), gd_nI (show j < 400 by omega) (by decide), gd_nI (show j < 400 by omega) (by decide), nI_clamp (by omega), k1.2.2.2.1 j j1, show (putI τ' 0 0).2 11 j = nI (gr t n K j) from k2.2.2.2.1 j j1]
    exact ⟨_, _, _, rfl, rfl, g1, g2.fr (fy 0) (by decide) (by decide), s1, f1, f3 0, Or.inr ⟨by rw [k1.2.1]; exact hw, rfl, rfl⟩⟩
