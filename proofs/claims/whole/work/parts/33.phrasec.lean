/-! phrases: the class -/
/-- the table of whole phrases: sources are right, and no two are the same -/
def PInv (t : Nat → Nat) (n m : Nat) : Prop := (∀ i, i < m → (pS t n m i = -2 ∧ pL t n m i = 1) ∨ ∃ j, j < i ∧ pS t n m i = nI j ∧ pL t n m j + 1 = pL t n m i ∧ ∀ x, x < pL t n m j → t (pP t n m i + x) = t (pP t n m j + x)) ∧
  ∀ i j, i < m → j < m → pL t n m i = pL t n m j → (∀ x, x < pL t n m i → t (pP t n m i + x) = t (pP t n m j + x)) → i = j
/-- the phrase that the run of L - 1 signs from p is -/
def Bef (t : Nat → Nat) (n m L : Nat) (bef : Int32) : Prop := (L = 1 ∧ bef = -2) ∨ ∃ j, j < m ∧ bef = nI j ∧ pL t n m j + 1 = L ∧ ∀ x, x < pL t n m j → t (pp t n m + x) = t (pP t n m j + x)
theorem same_search {t : Nat → Nat} {n m L i : Nat} {bef : Int32} (hm : m ≤ 400) (hall : ∀ i, i < m → pp t n i < n) (hI : PInv t n m) (hL : 1 ≤ L) (hB : Bef t n m L bef) (hi : i < m) :
    (pS t n m i = bef ∧ t (pP t n m i + pL t n m i - 1) = t (pp t n m + L - 1)) ↔ QQ t (pP t n m) (pL t n m) (pp t n m) L i := by
  have hb := pP_bd m hall
  have b3 := (hb i hi).2.2.1
  rcases hB with ⟨l1, l2⟩ | ⟨j, j1, j2, j3, j4⟩
  · subst l1
    constructor
    · rintro ⟨a, b⟩
      rcases hI.1 i hi with ⟨c1, c2⟩ | ⟨j, c1, c2, -⟩
      · refine ⟨c2, fun x hx => ?_⟩
        have : x = 0 := by omega
        subst this
        rw [c2] at b
        exact b.symm
      · rw [a, l2] at c2
        exact absurd c2.symm (nI_m2 (by omega))
    · rintro ⟨a, b⟩
      refine ⟨?_, ?_⟩
      · rcases hI.1 i hi with ⟨c1, c2⟩ | ⟨j, c1, c2, c3, c4⟩
        · rw [c1, l2]
        · have := (hb j (by omega)).2.2.1
          omega
      · rw [a]
        exact (b 0 (by omega)).symm
  · constructor
    · rintro ⟨a, b⟩
      rcases hI.1 i hi with ⟨c1, c2⟩ | ⟨j', c1, c2, c3, c4⟩
      · rw [c1, j2] at a
        exact absurd a.symm (nI_m2 (by omega))
      · rw [c2, j2] at a
        have e : j' = j := (nI_eq (by omega) (by omega)).mp a
        subst e
        have hli : pL t n m i = L := by omega
        refine ⟨hli, fun x hx => ?_⟩
        by_cases z : x < pL t n m j'
        · rw [j4 x z, c4 x z]
        · have hx2 : x = L - 1 := by omega
          rw [hli] at b
          rw [hx2, show pp t n m + (L - 1) = pp t n m + L - 1 by omega, show pP t n m i + (L - 1) = pP t n m i + L - 1 by omega]
          exact b.symm
    · rintro ⟨a, b⟩
      have hj := (hb j j1).2.2.1
      refine ⟨?_, ?_⟩
      · rcases hI.1 i hi with ⟨c1, c2⟩ | ⟨j', c1, c2, c3, c4⟩
        · omega
        · have e : j' = j := hI.2 j' j (by omega) j1 (by omega) (fun x hx => by
            rw [← c4 x hx, ← b x (by omega), j4 x (by omega)])
          rw [c2, j2, e]
      · rw [a]
        have := b (L - 1) (by omega)
        rw [show pp t n m + (L - 1) = pp t n m + L - 1 by omega, show pP t n m i + (L - 1) = pP t n m i + L - 1 by omega] at this
        exact this.symm
theorem PInv_s {t : Nat → Nat} {n m L : Nat} {bef : Int32} (hI : PInv t n m) (hR : pR t n m = (L, bef)) (hB : Bef t n m L bef) (hno : ¬ fx (QQ t (pP t n m) (pL t n m) (pp t n m) L) m < m) : PInv t n (m + 1) := by
  have hq : ∀ i, i < m → ¬ QQ t (pP t n m) (pL t n m) (pp t n m) L i := fun i hi => by
    obtain ⟨s1, s2, s3⟩ := fx_spec (QQ t (pP t n m) (pL t n m) (pp t n m) L) m
    exact s3 i (by omega)
  have eL : ∀ i, i < m → pL t n (m + 1) i = pL t n m i := fun i hi => by rw [pL_s]; exact tset_lt hi
  have eP : ∀ i, i < m → pP t n (m + 1) i = pP t n m i := fun i hi => by rw [pP_s]; exact tset_lt hi
  have eS : ∀ i, i < m → pS t n (m + 1) i = pS t n m i := fun i hi => by rw [pS_s, if_neg (by omega)]
  have mL : pL t n (m + 1) m = L := by rw [pL_s, tset_at, hR]
  have mP : pP t n (m + 1) m = pp t n m := by rw [pP_s, tset_at]
  have mS : pS t n (m + 1) m = bef := by rw [pS_s, if_pos rfl, hR]
  refine ⟨fun i hi => ?_, fun i j hi hj hl hx => ?_⟩
  · by_cases e : i = m
    · subst e
      rw [mS, mL, mP]
      rcases hB with ⟨l1, l2⟩ | ⟨j, j1, j2, j3, j4⟩
      · exact Or.inl ⟨l2, l1⟩
      · exact Or.inr ⟨j, j1, j2, by rw [eL j j1]; exact j3, fun x hx => by rw [eL j j1] at hx; rw [eP j j1]; exact j4 x hx⟩
    · have hi' : i < m := by omega
      rw [eS i hi', eL i hi', eP i hi']
      rcases hI.1 i hi' with c | ⟨j, c1, c2, c3, c4⟩
      · exact Or.inl c
      · have hj : j < m := by omega
        exact Or.inr ⟨j, c1, c2, by rw [eL j hj]; exact c3, fun x hx => by rw [eL j hj] at hx; rw [eP j hj]; exact c4 x hx⟩
  · by_cases e : i = m
    · by_cases e' : j = m
      · omega
      · have hj' : j < m := by omega
        subst e
        rw [mL, eL j hj'] at hl
        refine absurd ?_ (hq j hj')
        refine ⟨hl.symm, fun x hx' => ?_⟩
        have h9 := hx x (by rw [mL]; exact hx')
        rw [mP, eP j hj'] at h9
        exact h9
    · have hi' : i < m := by omega
      by_cases e' : j = m
      · subst e'
        rw [mL, eL i hi'] at hl
        refine absurd ?_ (hq i hi')
        refine ⟨hl, fun x hx' => ?_⟩
        have h9 := hx x (by rw [eL i hi', hl]; exact hx')
        rw [mP, eP i hi'] at h9
        exact h9.symm
      · have hj' : j < m := by omega
        rw [eL i hi', eL j hj'] at hl
        exact hI.2 i j hi' hj' hl (fun x hx' => by
          have h9 := hx x (by rw [eL i hi']; exact hx')
          rw [eP i hi', eP j hj'] at h9
          exact h9)
theorem findPhrase_c {σ : SS} {t : Nat → Nat} {n m L : Nat} {bef : Int32} (h : Tc σ t n) (h11 : σ.1 11 = nI m) (hall : ∀ i, i < m → pp t n i < n) (hp : pp t n m ≤ n) (hc : Phm t n m (σ.2 16) (σ.2 17) (σ.2 18)) (hI : PInv t n m) (hL : 1 ≤ L) (hLn : pp t n m + L ≤ n) (hB : Bef t n m L bef) :
    f_c_X6_findPhrase σ bef (nI (t (pp t n m + L - 1))) = some (cdx (fx (QQ t (pP t n m) (pL t n m) (pp t n m) L) m) m, σ) := by
  have hn := h.2.1
  have hge := pp_ge t n m
  obtain ⟨s1, s2, s3⟩ := fx_spec (QQ t (pP t n m) (pL t n m) (pp t n m) L) m
  have ht0 := (h.2.2.1 (pp t n m + L - 1) (by omega)).1
  unfold f_c_X6_findPhrase
  refine L3_rule (I := fun k σ1 x1 x2 x3 => ∃ i, i + k = m ∧ x1 = bef ∧ x2 = nI (t (pp t n m + L - 1)) ∧ x3 = nI i ∧ σ1 = σ ∧ i ≤ fx (QQ t (pP t n m) (pL t n m) (pp t n m) L) m) (O := fun o => o = some (cdx (fx (QQ t (pP t n m) (pL t n m) (pp t n m) L) m) m, σ)) ?_ FUEL m σ _ _ _ (by unfold FUEL; omega) ⟨0, by omega, rfl, rfl, i_0, rfl, Nat.zero_le _⟩
  rintro g k σ1 x1 x2 x3 ⟨i, hi, rfl, rfl, rfl, rfl, hif⟩ ih
  unfold f_c_X6_findPhrase_3
  rw [h11]
  by_cases q : i < m
  · obtain ⟨a1, a2, a3⟩ := hc i q
    obtain ⟨b1, b2, b3, b4⟩ := pP_bd m hall i q
    have hsame := same_search (i := i) (by omega) hall hI hL hB q
    rw [if_neg (fun y => nI_ge q (by omega) y), gd_nI (show i < 400 by omega) (by decide), gd_nI (show i < 400 by omega) (by decide), gd_nI (show i < 400 by omega) (by decide), nI_clamp (by omega), a1, a2, a3, nI_1, nI_add]
    have goOn : ¬ QQ t (pP t n m) (pL t n m) (pp t n m) L i → g σ1 x1 (nI (t (pp t n m + L - 1))) (nI (i + 1)) = some (cdx (fx (QQ t (pP t n m) (pL t n m) (pp t n m) L) m) m, σ1) := fun hq =>
      ih (k - 1) _ _ _ _ (by omega) ⟨i + 1, by omega, rfl, rfl, rfl, rfl, by
        rcases Nat.lt_or_ge i (fx (QQ t (pP t n m) (pL t n m) (pp t n m) L) m) with z | z
        · exact z
        · have e : i = fx (QQ t (pP t n m) (pL t n m) (pp t n m) L) m := by omega
          exact absurd (e ▸ s2 (by omega)) hq⟩
    by_cases e : pS t n m i = x1
    · rw [if_pos e]
      obtain ⟨w, hw⟩ : ∃ w, pP t n m i + pL t n m i = w + 1 := ⟨pP t n m i + pL t n m i - 1, by omega⟩
      have tw := h.2.2.1 w (by omega)
      rw [hw, nI_pred, gd_nI (show w < 400 by omega) (by decide), nI_clamp (by omega), tw.2]
      have hw2 : t (pP t n m i + pL t n m i - 1) = t w := by rw [hw]; rfl
      by_cases y : t w = t (pp t n m + L - 1)
      · rw [if_pos (by rw [y])]
        have hq := hsame.mp ⟨e, by rw [hw2]; exact y⟩
        have hfi : fx (QQ t (pP t n m) (pL t n m) (pp t n m) L) m = i := by
          rcases Nat.lt_or_ge i (fx (QQ t (pP t n m) (pL t n m) (pp t n m) L) m) with z | z
          · exact absurd hq (s3 i z)
          · omega
        rw [hfi]
        unfold cdx
        rw [if_pos q]
      · rw [if_neg (fun z => y ((nI_eq (by omega) (by omega)).mp z))]
        exact goOn (fun hq => y (by rw [← hw2]; exact (hsame.mpr hq).2))
    · rw [if_neg e]
      exact goOn (fun hq => e (hsame.mpr hq).1)
  · have him : i = m := by omega
    rw [if_pos (nI_le (by omega) (by omega))]
    unfold cdx
    rw [if_neg (by omega)]
theorem add_24 {σ : SS} {m : Nat} (x y z : Int32) (hm : σ.1 11 = nI m) (hm4 : m < 400) : ∃ σ', f_c_X7_add_24 σ x y z = some ((), σ') ∧ fr [11] [16, 17, 18] σ σ' ∧ σ'.1 11 = nI (m + 1) ∧ σ'.2 16 = upd (σ.2 16) m x ∧ σ'.2 17 = upd (σ.2 17) m y ∧ σ'.2 18 = upd (σ.2 18) m z := by
  unfold f_c_X7_add_24
  rw [hm, gd_nI hm4 (by decide), nI_clamp (by omega)]
  rw [show (putA σ 16 m x).1 11 = nI m from hm, gd_nI hm4 (by decide), nI_clamp (by omega)]
  rw [show (putA (putA σ 16 m x) 17 m y).1 11 = nI m from hm, gd_nI hm4 (by decide), nI_clamp (by omega)]
  rw [show (putA (putA (putA σ 16 m x) 17 m y) 18 m z).1 11 = nI m from hm, nI_1]
  exact ⟨_, rfl, (((((fr.rf σ).pA (by decide)).pA (by decide)).pA (by decide)).pI (by decide)), rfl, rfl, rfl, rfl⟩
def Ph (σ : SS) (t : Nat → Nat) (n : Nat) : Prop := ∃ m, PhN t n m ∧ σ.1 11 = nI m ∧ Phm t n m (σ.2 16) (σ.2 17) (σ.2 18)
theorem Ph.fr {I A : List Nat} {σ σ' : SS} {t : Nat → Nat} {n : Nat} (h : Ph σ t n) (f : fr I A σ σ') (h0 : 11 ∉ I) (h1 : 16 ∉ A ∧ 17 ∉ A ∧ 18 ∉ A) : Ph σ' t n := by
  obtain ⟨m, a, b, c⟩ := h
  exact ⟨m, a, (f.1 11 h0).trans b, by rw [f.2 16 h1.1, f.2 17 h1.2.1, f.2 18 h1.2.2]; exact c⟩
theorem Phm_s {t : Nat → Nat} {n m : Nat} {a b c a' b' c' : Nat → Int32} (h : Phm t n m a b c) (ha : a' = upd a m (nI (pp t n m))) (hb : b' = upd b m (nI (pR t n m).1)) (hc : c' = upd c m (pR t n m).2) : Phm t n (m + 1) a' b' c' := by
  intro i hi
  rw [ha, hb, hc, upd_at, upd_at, upd_at, pP_s, pL_s, pS_s]
  by_cases y : i = m
  · rw [if_pos y, if_pos y, if_pos y, if_pos y, y, tset_at, tset_at]; exact ⟨rfl, rfl, rfl⟩
  · rw [if_neg y, if_neg y, if_neg y, if_neg y, tset_lt (by omega), tset_lt (by omega)]; exact h i (by omega)
theorem follow_p {σ : SS} {t : Nat → Nat} {n : Nat} (h : Tc σ t n) (hs : σ.1 12 = σ.1 1 → Ph σ t n) :
    ∃ σ', f_c_X7_follow_24 σ = some ((), σ') ∧ fr [11, 12] [16, 17, 18] σ σ' ∧ Ph σ' t n ∧ σ'.1 12 = σ.1 1 := by
  have hn := h.2.1
  unfold f_c_X7_follow_24
  by_cases q : σ.1 12 = σ.1 1
  · rw [if_pos q]
    exact ⟨σ, rfl, fr.rf σ, hs q, q⟩
  · rw [if_neg q]
    unfold f_c_X6_cut
    have f0 : fr [11, 12] [16, 17, 18] σ (putI (putI σ 12 (σ.1 1)) 11 0) := ((fr.rf σ).pI (by decide)).pI (by decide)
    have main : ∃ σ', L3 f_c_X6_cut_8 FUEL (putI (putI σ 12 (σ.1 1)) 11 0) 0 (-2) 0 = some ((), σ') ∧ fr [11, 12] [16, 17, 18] σ σ' ∧ Ph σ' t n ∧ σ'.1 12 = σ.1 1 := by
      refine L3_rule (I := fun k σ1 x1 x2 x3 => ∃ m pl, pl + k = n ∧ x1 = nI (pp t n m) ∧ x3 = nI pl ∧ (∀ i, i < m → pp t n i < n) ∧ pp t n m ≤ n ∧ PInv t n m ∧ fr [11, 12] [16, 17, 18] σ σ1 ∧ σ1.1 12 = σ.1 1 ∧ σ1.1 11 = nI m ∧ Phm t n m (σ1.2 16) (σ1.2 17) (σ1.2 18) ∧
          ((pl < n ∧ ∃ L, 1 ≤ L ∧ pl + 1 = pp t n m + L ∧ Bef t n m L x2 ∧ scan (QQ t (pP t n m) (pL t n m) (pp t n m)) m (n - (pp t n m + L)) L x2 = pR t n m) ∨ (pl = n ∧ pp t n m < n ∧ pR t n m = (n - pp t n m, x2)) ∨ (pl = n ∧ pp t n m = n)))
        (O := fun o => ∃ σ', o = some ((), σ') ∧ fr [11, 12] [16, 17, 18] σ σ' ∧ Ph σ' t n ∧ σ'.1 12 = σ.1 1) ?_ FUEL n _ _ _ _ (by unfold FUEL; omega) ⟨0, 0, by omega, i_0, i_0, fun i hi => absurd hi (Nat.not_lt_zero i), Nat.zero_le _, ⟨fun i hi => absurd hi (Nat.not_lt_zero i), fun i j hi => absurd hi (Nat.not_lt_zero i)⟩, f0, rfl, i_0, fun i hi => absurd hi (Nat.not_lt_zero i), ?_⟩
      · rintro g k σ1 x1 x2 x3 ⟨m, pl, hpl, rfl, rfl, hlt, hPn, hI, f1, h12, h11, hc, hcase⟩ ih
        have h1 := h.fr f1 (by decide) (by decide) (by decide)
        have hmm := pp_ge t n m
        unfold f_c_X6_cut_8
        rw [h1.1]
        rcases hcase with ⟨z, L, hL1, hL2, hB, hsc⟩ | ⟨z, y, hR⟩ | ⟨z, y⟩
        · have tpl := h1.2.2.1 pl z
          rw [if_neg (fun y => nI_ge z (by omega) y), gd_nI (show pl < 400 by omega) (by decide), nI_clamp (by omega), tpl.2, show t pl = t (pp t n m + L - 1) by congr 1; omega, findPhrase_c h1 h11 hlt hPn hc hI hL1 (by omega) hB, bd_s, nI_1]
          by_cases e : fx (QQ t (pP t n m) (pL t n m) (pp t n m) L) m < m
          · obtain ⟨s1, s2, s3⟩ := fx_spec (QQ t (pP t n m) (pL t n m) (pp t n m) L) m
            have hq := s2 e
            have hcd : cdx (fx (QQ t (pP t n m) (pL t n m) (pp t n m) L) m) m = nI (fx (QQ t (pP t n m) (pL t n m) (pp t n m) L) m) := by unfold cdx; rw [if_pos e]
            rw [if_neg (by rw [hcd]; exact nI_m2 (by omega)), hcd]
            refine ih (k - 1) _ _ _ _ (by omega) ⟨m, pl + 1, by omega, rfl, rfl, hlt, hPn, hI, f1, h12, h11, hc, ?_⟩
            by_cases w : pl + 1 < n
            · refine Or.inl ⟨w, L + 1, by omega, by omega, Or.inr ⟨_, e, rfl, by rw [hq.1], fun x hx => by rw [hq.1] at hx; exact hq.2 x hx⟩, ?_⟩
              rw [show n - (pp t n m + L) = n - (pp t n m + (L + 1)) + 1 by omega, scan_go e] at hsc
              exact hsc
            · refine Or.inr (Or.inl ⟨by omega, by omega, ?_⟩)
              rw [show n - (pp t n m + L) = 0 by omega, scan_end e] at hsc
              rw [← hsc, show L = n - pp t n m by omega]
          · have hcd : cdx (fx (QQ t (pP t n m) (pL t n m) (pp t n m) L) m) m = -2 := by unfold cdx; rw [if_neg e]
            rw [scan_none e] at hsc
            rw [if_pos hcd, hcd, pk_sub (by omega), show pl + 1 - pp t n m = L by omega]
            obtain ⟨σ2, e2, f2, n2, a2, b2, c2⟩ := add_24 (nI (pp t n m)) (nI L) x2 h11 (by omega)
            rw [e2, bd_s]
            have hpp : pp t n (m + 1) = pl + 1 := by rw [pp_s, ← hsc]; show pp t n m + L = _; omega
            refine ih (k - 1) _ _ _ _ (by omega) ⟨m + 1, pl + 1, by omega, by rw [hpp], rfl, fun i hi => ?_, by omega, PInv_s hI hsc.symm hB e, f1.tr (f2.up (by decide) (by decide)), by rw [f2.1 12 (by decide)]; exact h12, n2, Phm_s hc a2 (by rw [b2, ← hsc]) (by rw [c2, ← hsc]), ?_⟩
            · by_cases w : i = m
              · rw [w]; omega
              · exact hlt i (by omega)
            · by_cases w : pl + 1 < n
              · refine Or.inl ⟨w, 1, Nat.le_refl 1, by omega, Or.inl ⟨rfl, rfl⟩, ?_⟩
                rw [← Nat.sub_sub]; rfl
              · exact Or.inr (Or.inr ⟨by omega, by omega⟩)
        · subst z
          rw [if_pos (nI_le (Nat.le_refl _) (by omega)), if_neg (fun w => nI_ge y (by omega) w), pk_sub (by omega)]
          obtain ⟨σ2, e2, f2, n2, a2, b2, c2⟩ := add_24 (nI (pp t pl m)) (nI (pl - pp t pl m)) x2 h11 (by omega)
          rw [e2, bd_s]
          have hpp : pp t pl (m + 1) = pl := by rw [pp_s, hR]; show pp t pl m + (pl - pp t pl m) = _; omega
          refine ⟨σ2, rfl, f1.tr (f2.up (by decide) (by decide)), ⟨m + 1, ⟨by omega, fun i hi => ?_⟩, n2, Phm_s hc a2 (by rw [b2, hR]) (by rw [c2, hR])⟩, by rw [f2.1 12 (by decide)]; exact h12⟩
          by_cases w : i = m
          · rw [w]; exact y
          · exact hlt i (by omega)
        · subst z
          rw [if_pos (nI_le (Nat.le_refl _) (by omega)), if_pos (by rw [y]; exact nI_le (Nat.le_refl _) (by omega))]
          exact ⟨σ1, rfl, f1, ⟨m, ⟨by omega, hlt⟩, h11, hc⟩, h12⟩
      · by_cases z : 0 < n
        · refine Or.inl ⟨z, 1, Nat.le_refl 1, rfl, Or.inl ⟨rfl, rfl⟩, ?_⟩
          rw [← Nat.sub_sub]; rfl
        · have e0 : n = 0 := by omega
          exact Or.inr (Or.inr ⟨e0.symm, e0.symm⟩)
    obtain ⟨σ', e, a, b, c⟩ := main
    rw [e, bd_s]
    exact ⟨σ', rfl, a, b, c⟩
