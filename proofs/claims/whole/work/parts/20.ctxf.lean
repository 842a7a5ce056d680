/-! order, context, count: both sides alike -/
def CtxI (σ : SS) (t : Nat → Nat) (n K : Nat) : Prop := K ≤ 3 ∧ σ.1 3 = nI K ∧ (σ.1 6 = σ.1 1 → Cx σ t K (np n K))
theorem order_both {σ τ : SS} {t : Nat → Nat} {n K : Nat} (h : Tc σ t n) (hm : Tm τ t n) (hc : CtxI σ t n K) (hk : τ.1 2 = nI K) (hch : ¬ σ.1 1 = -1) (x : Int32) :
    ∃ r σ' τ' K', f_c_X11_order σ x = some (r, σ') ∧ f_m_X12_order τ x = some (r, τ') ∧ CtxI σ' t n K' ∧ τ'.1 2 = nI K' ∧ (σ'.1 6 = σ.1 6 ∨ σ'.1 6 = σ.1 1) ∧ fr [3, 4, 5, 6] [3, 4, 5, 6, 7] σ σ' ∧ fr [0, 2, 3] [2, 3, 4] τ τ' := by
  unfold f_c_X11_order f_m_X12_order
  rw [wi_c, wi_m' _ x 0 3 (by decide) (by decide), bd_s, bd_s]
  by_cases hw : wi x 0 3 = 0
  · rw [if_pos hw, if_pos hw]
    exact ⟨-1, σ, _, K, rfl, rfl, hc, hk, Or.inl rfl, fr.rf σ, (fr.rf τ).pI (by decide)⟩
  · rw [if_neg hw, if_neg hw]
    obtain ⟨K', hK', rfl⟩ := wi_nI (b := 3) (by decide) hw
    have fm : fr [0, 2, 3] [2, 3, 4] τ (putI (putI τ 0 0) 2 (nI K')) := ((fr.rf τ).pI (by decide)).pI (by decide)
    have fm' : fr [0, 2] [] τ (putI (putI τ 0 0) 2 (nI K')) := ((fr.rf τ).pI (by decide)).pI (by decide)
    obtain ⟨τ', e2, f2, x2⟩ := findContexts_m (K := K') (hm.fr fm' (by decide) (by decide)) hK' rfl
    obtain ⟨σ1, e1, f1, t1, o1, s1⟩ : ∃ σ1, f_c_X0_setOrder σ (nI K') = some ((), σ1) ∧ fr [3, 6] [] σ σ1 ∧ Tc σ1 t n ∧ σ1.1 3 = nI K' ∧ (σ1.1 6 = σ1.1 1 → Cx σ1 t K' (np n K')) := by
      unfold f_c_X0_setOrder
      by_cases e : nI K' = σ.1 3
      · rw [if_pos e]
        have : K' = K := (nI_eq (by omega) (by have := hc.1; omega)).mp (e.trans hc.2.1)
        subst this
        exact ⟨σ, rfl, fr.rf σ, h, hc.2.1, hc.2.2⟩
      · rw [if_neg e]
        have f0 : fr [3, 6] [] σ (putI (putI σ 3 (nI K')) 6 (-1)) := ((fr.rf σ).pI (by decide)).pI (by decide)
        exact ⟨_, rfl, f0, h.fr f0 (by decide) (by decide) (by decide), rfl, fun q => absurd (show σ.1 1 = -1 from q.symm) hch⟩
    rw [e1, bd_s]
    obtain ⟨σ2, e3, f3, x3, s3⟩ := follow_c t1 hK' o1 s1
    rw [e3, bd_s, e2, bd_s, x3.1, x2.1]
    refine ⟨_, σ2, τ', K', rfl, rfl, ⟨hK', by rw [f3.1 3 (by decide)]; exact o1, fun _ => x3⟩, by rw [f2.1 2 (by decide)]; rfl, Or.inr (by rw [s3, f1.1 1 (by decide)]), (f1.up (by decide) (by decide)).tr (f3.up (by decide) (by decide)), fm.tr (f2.up (by decide) (by decide))⟩
theorem digit {t : Nat → Nat} {q K j : Nat} (hK : K ≤ 3) (hj : j < K) (ht : ∀ i, i < K → t (q + i) < 16) :
    nI (cdk t q K) >>> ((4 * (nI K - 1 - nI j)) &&& 31) &&& 15 = nI (t (q + j)) := by
  have hlt := cdk_lt ht
  have hp : 16 ^ K ≤ 16 ^ 3 := Nat.pow_le_pow_right (by decide) hK
  have key : ∀ (s : Int32) (k : Nat), (s.toBitVec.smod 32).toNat = k → nI (cdk t q K) >>> s &&& 15 = nI (cdk t q K / 2 ^ k % 16) := by
    intro s k hs
    rw [pk_shrN (by omega) s k hs]
    have hd : cdk t q K / 2 ^ k ≤ cdk t q K := Nat.div_le_self _ _
    rw [pk_andN (by omega) 4 (by decide)]
  rcases (show (K = 1 ∧ j = 0) ∨ (K = 2 ∧ j = 0) ∨ (K = 2 ∧ j = 1) ∨ (K = 3 ∧ j = 0) ∨ (K = 3 ∧ j = 1) ∨ (K = 3 ∧ j = 2) by omega) with ⟨rfl, rfl⟩ | ⟨rfl, rfl⟩ | ⟨rfl, rfl⟩ | ⟨rfl, rfl⟩ | ⟨rfl, rfl⟩ | ⟨rfl, rfl⟩
  · rw [key _ 0 (by decide)]
    have h0 := ht 0 (by omega)
    congr 1
    show (0 * 16 + t (q + 0)) / 2 ^ 0 % 16 = _
    omega
  · rw [key _ 4 (by decide)]
    have h0 := ht 0 (by omega)
    have h1 := ht 1 (by omega)
    congr 1
    show ((0 * 16 + t (q + 0)) * 16 + t (q + 1)) / 2 ^ 4 % 16 = _
    omega
  · rw [key _ 0 (by decide)]
    have h0 := ht 0 (by omega)
    have h1 := ht 1 (by omega)
    congr 1
    show ((0 * 16 + t (q + 0)) * 16 + t (q + 1)) / 2 ^ 0 % 16 = _
    omega
  · rw [key _ 8 (by decide)]
    have h0 := ht 0 (by omega)
    have h1 := ht 1 (by omega)
    have h2 := ht 2 (by omega)
    congr 1
    show (((0 * 16 + t (q + 0)) * 16 + t (q + 1)) * 16 + t (q + 2)) / 2 ^ 8 % 16 = _
    omega
  · rw [key _ 4 (by decide)]
    have h0 := ht 0 (by omega)
    have h1 := ht 1 (by omega)
    have h2 := ht 2 (by omega)
    congr 1
    show (((0 * 16 + t (q + 0)) * 16 + t (q + 1)) * 16 + t (q + 2)) / 2 ^ 4 % 16 = _
    omega
  · rw [key _ 0 (by decide)]
    have h0 := ht 0 (by omega)
    have h1 := ht 1 (by omega)
    have h2 := ht 2 (by omega)
    congr 1
    show (((0 * 16 + t (q + 0)) * 16 + t (q + 1)) * 16 + t (q + 2)) / 2 ^ 0 % 16 = _
    omega
theorem context_both {σ τ : SS} {t : Nat → Nat} {n K : Nat} (h : Tc σ t n) (hm : Tm τ t n) (hc : CtxI σ t n K) (hk : τ.1 2 = nI K) (x y : Int32) :
    ∃ r σ' τ', f_c_X11_context σ x y = some (r, σ') ∧ f_m_X12_context τ x y = some (r, τ') ∧ CtxI σ' t n K ∧ σ'.1 6 = σ.1 1 ∧ fr [4, 5, 6] [3, 4, 5, 6, 7] σ σ' ∧ fr [0, 3] [2, 3, 4] τ τ' := by
  have hn := h.2.1
  have hK := hc.1
  obtain ⟨σ1, e1, f1, x1, s1⟩ := follow_c h hc.1 hc.2.1 hc.2.2
  have fm' : fr [0] [] τ (putI τ 0 0) := (fr.rf τ).pI (by decide)
  obtain ⟨τ1, e2, f2, x2⟩ := findContexts_m (K := K) (hm.fr fm' (by decide) (by decide)) hc.1 hk
  have f3 : fr [0, 3] [2, 3, 4] τ τ1 := (fm'.up (by decide) (by decide)).tr (f2.up (by decide) (by decide))
  have hc1 : CtxI σ1 t n K := ⟨hK, by rw [f1.1 3 (by decide)]; exact hc.2.1, fun _ => x1⟩
  have hlen := fo_len (cv t K) (np n K)
  have hnp : np n K ≤ 400 := by unfold np; omega
  have h3 := hm.fr f3 (by decide) (by decide)
  unfold f_c_X11_context f_m_X12_context
  rw [e1, bd_s, e2, bd_s, wi_c, bd_s, wi_m' _ x 0 (τ1.1 3 - 1) (by decide) rfl, bd_s, x1.1, x2.1]
  by_cases hw : wi x 0 (nI (fo (cv t K) (np n K)).length - 1) = 0
  · rw [if_pos hw, if_pos hw]
    exact ⟨-1, σ1, τ1, rfl, rfl, hc1, s1, f1, f3⟩
  · rw [if_neg hw, if_neg hw, wi_c, bd_s, wi_m' _ y 0 (τ1.1 2 - 1) (by decide) rfl, bd_s, hc1.2.1, show τ1.1 2 = nI K by rw [f3.1 2 (by decide)]; exact hk]
    obtain ⟨c, hcl, rfl⟩ := wi_lt (by omega) hw
    by_cases hv : wi y 0 (nI K - 1) = 0
    · rw [if_pos hv, if_pos hv]
      exact ⟨-1, σ1, τ1, rfl, rfl, hc1, s1, f1, f3⟩
    · rw [if_neg hv, if_neg hv]
      obtain ⟨j, hj, rfl⟩ := wi_lt (by omega) hv
      obtain ⟨v, hv1, -⟩ := fo_get hcl
      obtain ⟨⟨q, q1, q2, q3⟩, -⟩ := x2.2.1 c v hv1
      unfold f_c_X0_signOf
      have hqn : K + q < n := by unfold np at q1; omega
      rw [gd_nI (show c < 400 by omega) (by decide), bd_s, gd_nI (show c < 400 by omega) (by decide), nI_clamp (by omega), (x1.2.2.1 c v hv1).1, ← q2, hc1.2.1, show cv t K q = cdk t q K from rfl, digit hK hj (fun i hi => (h3.2.2 (q + i) (by omega)).1), q3, pk_sub (by omega), nI_add, show K + q - K + j = q + j by omega, gd_nI (show q + j < 400 by omega) (by decide), nI_clamp (by omega), (h3.2.2 (q + j) (by omega)).2]
      exact ⟨_, σ1, τ1, rfl, rfl, hc1, s1, f1, f3⟩
theorem wi_m1 {x : Int32} (h : ¬ wi x (-1) 15 = 0) : x = -1 ∨ ∃ s, s < 16 ∧ x = nI s := by
  rcases wi_or x (-1) 15 with q | ⟨-, h1, h2⟩
  · exact absurd q h
  · by_cases e : x = -1
    · exact Or.inl e
    · refine Or.inr ?_
      have hx : ¬ x < 0 := by
        intro z
        apply e
        rw [← Int32.toInt_inj]
        rw [Int32.lt_iff_toInt_lt] at z
        rw [Int32.le_iff_toInt_le] at h1
        have e1 : (-1 : Int32).toInt = -1 := by decide
        have e0 : (0 : Int32).toInt = 0 := by decide
        omega
      obtain ⟨j, hj, rfl⟩ := nI_of hx
      exact ⟨j, by have := (nI_leI hj (by decide : 15 < 2 ^ 31)).mp h2; omega, rfl⟩
theorem countOf_c {σ : SS} {t : Nat → Nat} {n K c s : Nat} (h : Tc σ t n) (hx : Cx σ t K (np n K)) (hc : c < (fo (cv t K) (np n K)).length) (hs : s < 16) : f_c_X0_countOf σ (nI c) (nI s) = some (nI (cnt (pr t K) (16 * c + s) (np n K)), σ) := by
  have hn := h.2.1
  have hlen := fo_len (cv t K) (np n K)
  have hlen2 := fo_len (pr t K) (np n K)
  have hnp : np n K ≤ 400 := by unfold np; omega
  have hpos : 0 < np n K := by omega
  unfold f_c_X0_countOf
  rw [findEntry_c (l := fo (pr t K) (np n K)) (by omega) hx.2.1 (Cx_e (n := n) (fun i hi => (h.2.2.1 i hi).1) hn (by unfold np at hpos ⊢; omega) hx) hs (by omega), bd_s, hx.2.1]
  have hle := fi_le (16 * c + s) (fo (pr t K) (np n K))
  by_cases q : fi (16 * c + s) (fo (pr t K) (np n K)) < (fo (pr t K) (np n K)).length
  · rw [if_neg (fun z => nI_ge q (by omega) z), gd_nI (by omega) (by decide), nI_clamp (by omega), (hx.2.2.2 _ _ (fi_at q)).2.2]
  · rw [if_pos (nI_le (by omega) (by omega))]
    have : cnt (pr t K) (16 * c + s) (np n K) = 0 := by
      rcases Nat.eq_zero_or_pos (cnt (pr t K) (16 * c + s) (np n K)) with y | y
      · exact y
      · exact absurd (fi_mem.mpr (fo_mem.mpr (cnt_pos.mp y))) q
    rw [this, ← i_0]
theorem count_both {σ τ : SS} {t : Nat → Nat} {n K : Nat} (h : Tc σ t n) (hm : Tm τ t n) (hc : CtxI σ t n K) (hk : τ.1 2 = nI K) (x y : Int32) :
    ∃ r σ' τ', f_c_X11_count σ x y = some (r, σ') ∧ f_m_X12_count τ x y = some (r, τ') ∧ CtxI σ' t n K ∧ σ'.1 6 = σ.1 1 ∧ fr [4, 5, 6] [3, 4, 5, 6, 7] σ σ' ∧ fr [0, 3] [2, 3, 4] τ τ' := by
  have hn := h.2.1
  have hK := hc.1
  obtain ⟨σ1, e1, f1, x1, s1⟩ := follow_c h hc.1 hc.2.1 hc.2.2
  have fm' : fr [0] [] τ (putI τ 0 0) := (fr.rf τ).pI (by decide)
  obtain ⟨τ1, e2, f2, x2⟩ := findContexts_m (K := K) (hm.fr fm' (by decide) (by decide)) hc.1 hk
  have f3 : fr [0, 3] [2, 3, 4] τ τ1 := (fm'.up (by decide) (by decide)).tr (f2.up (by decide) (by decide))
  have hc1 : CtxI σ1 t n K := ⟨hK, by rw [f1.1 3 (by decide)]; exact hc.2.1, fun _ => x1⟩
  have hlen := fo_len (cv t K) (np n K)
  have hnp : np n K ≤ 400 := by unfold np; omega
  have h1 := h.fr f1 (by decide) (by decide) (by decide)
  unfold f_c_X11_count f_m_X12_count
  rw [e1, bd_s, e2, bd_s, wi_c, bd_s, wi_m' _ x 0 (τ1.1 3 - 1) (by decide) rfl, bd_s, x1.1, x2.1]
  by_cases hw : wi x 0 (nI (fo (cv t K) (np n K)).length - 1) = 0
  · rw [if_pos hw, if_pos hw]
    exact ⟨-1, σ1, τ1, rfl, rfl, hc1, s1, f1, f3⟩
  · rw [if_neg hw, if_neg hw, wi_c, bd_s, wi_m' _ y (-1) 15 (by decide) (by decide), bd_s]
    obtain ⟨c, hcl, rfl⟩ := wi_lt (by omega) hw
    by_cases hv : wi y (-1) 15 = 0
    · rw [if_pos hv, if_pos hv]
      exact ⟨-1, σ1, τ1, rfl, rfl, hc1, s1, f1, f3⟩
    · rw [if_neg hv, if_neg hv]
      obtain ⟨v, hv1, -⟩ := fo_get hcl
      rcases wi_m1 hv with rfl | ⟨s, hs, rfl⟩
      · rw [if_pos rfl, gd_nI (show c < 400 by omega) (by decide), if_neg (by decide), gd_nI (show c < 400 by omega) (by decide), nI_clamp (by omega), (x1.2.2.1 c v hv1).2, (x2.2.1 c v hv1).2]
        exact ⟨_, σ1, τ1, rfl, rfl, hc1, s1, f1, f3⟩
      · rw [if_neg (nI_m1 (by omega)), countOf_c h1 x1 hcl hs, bd_s, if_pos (nI_pos' (by omega)), i_16, pk_mul, nI_add, gd_nI (by omega) (by decide), nI_clamp (by omega), x2.2.2 (16 * c + s) (by omega)]
        exact ⟨_, σ1, τ1, rfl, rfl, hc1, s1, f1, f3⟩
