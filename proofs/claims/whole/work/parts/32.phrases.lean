/-! phrases -/
/-- the first j below m with Q, or m -/
noncomputable def fx (Q : Nat → Prop) : Nat → Nat
  | 0 => 0
  | m + 1 => if fx Q m < m then fx Q m else @ite Nat (Q m) (Classical.propDecidable _) m (m + 1)
theorem fx_s (Q : Nat → Prop) (m : Nat) : fx Q (m + 1) = if fx Q m < m then fx Q m else @ite Nat (Q m) (Classical.propDecidable _) m (m + 1) := rfl
theorem fx_spec (Q : Nat → Prop) (m : Nat) : fx Q m ≤ m ∧ (fx Q m < m → Q (fx Q m)) ∧ ∀ j, j < fx Q m → ¬ Q j := by
  induction m with
  | zero => exact ⟨Nat.le_refl 0, fun h => absurd h (Nat.lt_irrefl 0), fun j hj => absurd hj (Nat.not_lt_zero j)⟩
  | succ m ih =>
    rw [fx_s]
    by_cases h : fx Q m < m
    · rw [if_pos h]
      exact ⟨by omega, fun _ => ih.2.1 h, ih.2.2⟩
    · rw [if_neg h]
      have e : fx Q m = m := by have := ih.1; omega
      by_cases q : Q m
      · rw [if_pos q]
        exact ⟨by omega, fun _ => q, fun j hj => ih.2.2 j (by omega)⟩
      · rw [if_neg q]
        refine ⟨Nat.le_refl _, fun z => absurd z (Nat.lt_irrefl _), fun j hj => ?_⟩
        by_cases z : j = m
        · rw [z]; exact q
        · exact ih.2.2 j (by omega)
theorem fx_eq {Q : Nat → Prop} {m k : Nat} (hk : k ≤ m) (h1 : k < m → Q k) (h2 : ∀ j, j < k → ¬ Q j) : fx Q m = k := by
  obtain ⟨a, b, c⟩ := fx_spec Q m
  rcases Nat.lt_trichotomy (fx Q m) k with z | z | z
  · exact absurd (b (by omega)) (h2 _ z)
  · exact z
  · exact absurd (h1 (by omega)) (c k z)
theorem fx_congr {Q Q' : Nat → Prop} {m : Nat} (h : ∀ j, j < m → (Q j ↔ Q' j)) : fx Q m = fx Q' m := by
  obtain ⟨a, b, c⟩ := fx_spec Q' m
  exact fx_eq a (fun z => (h _ z).mpr (b z)) (fun j hj q => c j hj ((h j (by omega)).mp q))
/-- the answer of a search: NONE, or its place -/
def cdx (k m : Nat) : Int32 := if k < m then nI k else -2
/-- from length L on, as long as there is such a phrase and text is left -/
noncomputable def scan (Q : Nat → Nat → Prop) (m : Nat) : Nat → Nat → Int32 → Nat × Int32
  | 0, L, bef => (L, if fx (Q L) m < m then nI (fx (Q L) m) else bef)
  | k + 1, L, bef => if fx (Q L) m < m then scan Q m k (L + 1) (nI (fx (Q L) m)) else (L, bef)
theorem scan_none {Q : Nat → Nat → Prop} {m k L : Nat} {bef : Int32} (h : ¬ fx (Q L) m < m) : scan Q m k L bef = (L, bef) := by
  cases k with
  | zero => unfold scan; rw [if_neg h]
  | succ k => unfold scan; rw [if_neg h]
theorem scan_end {Q : Nat → Nat → Prop} {m L : Nat} {bef : Int32} (h : fx (Q L) m < m) : scan Q m 0 L bef = (L, nI (fx (Q L) m)) := by
  unfold scan; rw [if_pos h]
theorem scan_go {Q : Nat → Nat → Prop} {m k L : Nat} {bef : Int32} (h : fx (Q L) m < m) : scan Q m (k + 1) L bef = scan Q m k (L + 1) (nI (fx (Q L) m)) := by
  rw [scan, if_pos h]
theorem scan_len (Q : Nat → Nat → Prop) (m : Nat) : ∀ k L bef, L ≤ (scan Q m k L bef).1 ∧ (scan Q m k L bef).1 ≤ L + k := by
  intro k
  induction k with
  | zero => intro L bef; exact ⟨Nat.le_refl _, Nat.le_refl _⟩
  | succ k ih =>
    intro L bef
    by_cases h : fx (Q L) m < m
    · rw [scan_go h]
      have := ih (L + 1) (nI (fx (Q L) m))
      omega
    · rw [scan_none h]; exact ⟨Nat.le_refl _, by show L ≤ _; omega⟩
/-- phrase j has length L and is the run from p -/
def QQ (t P l : Nat → Nat) (p L j : Nat) : Prop := l j = L ∧ ∀ x, x < L → t (p + x) = t (P j + x)
/-- the phrases: where the next one begins, places, lengths, sources -/
noncomputable def phs (t : Nat → Nat) (n : Nat) : Nat → Nat × (Nat → Nat) × (Nat → Nat) × (Nat → Int32)
  | 0 => (0, fun _ => 0, fun _ => 0, fun _ => -2)
  | i + 1 => ((phs t n i).1 + (scan (QQ t (phs t n i).2.1 (phs t n i).2.2.1 (phs t n i).1) i (n - (phs t n i).1 - 1) 1 (-2)).1,
      tset (phs t n i).2.1 i (phs t n i).1,
      tset (phs t n i).2.2.1 i (scan (QQ t (phs t n i).2.1 (phs t n i).2.2.1 (phs t n i).1) i (n - (phs t n i).1 - 1) 1 (-2)).1,
      fun j => if j = i then (scan (QQ t (phs t n i).2.1 (phs t n i).2.2.1 (phs t n i).1) i (n - (phs t n i).1 - 1) 1 (-2)).2 else (phs t n i).2.2.2 j)
noncomputable def pp (t : Nat → Nat) (n i : Nat) : Nat := (phs t n i).1
noncomputable def pP (t : Nat → Nat) (n i : Nat) : Nat → Nat := (phs t n i).2.1
noncomputable def pL (t : Nat → Nat) (n i : Nat) : Nat → Nat := (phs t n i).2.2.1
noncomputable def pS (t : Nat → Nat) (n i : Nat) : Nat → Int32 := (phs t n i).2.2.2
noncomputable def pR (t : Nat → Nat) (n i : Nat) : Nat × Int32 := scan (QQ t (pP t n i) (pL t n i) (pp t n i)) i (n - pp t n i - 1) 1 (-2)
theorem pp_s (t : Nat → Nat) (n i : Nat) : pp t n (i + 1) = pp t n i + (pR t n i).1 := rfl
theorem pP_s (t : Nat → Nat) (n i : Nat) : pP t n (i + 1) = tset (pP t n i) i (pp t n i) := rfl
theorem pL_s (t : Nat → Nat) (n i : Nat) : pL t n (i + 1) = tset (pL t n i) i (pR t n i).1 := rfl
theorem pS_s (t : Nat → Nat) (n i j : Nat) : pS t n (i + 1) j = if j = i then (pR t n i).2 else pS t n i j := rfl
theorem pR_1 (t : Nat → Nat) (n i : Nat) : 1 ≤ (pR t n i).1 := (scan_len _ _ _ _ _).1
theorem pR_n {t : Nat → Nat} {n i : Nat} (h : pp t n i < n) : pp t n i + (pR t n i).1 ≤ n := by
  have h1 : (pR t n i).1 ≤ 1 + (n - pp t n i - 1) := (scan_len _ _ _ _ _).2
  omega
theorem pp_ge (t : Nat → Nat) (n i : Nat) : i ≤ pp t n i := by
  induction i with
  | zero => exact Nat.zero_le _
  | succ i ih => rw [pp_s]; have := pR_1 t n i; omega
def PhN (t : Nat → Nat) (n m : Nat) : Prop := n ≤ pp t n m ∧ ∀ i, i < m → pp t n i < n
theorem PhN_eq {t : Nat → Nat} {n m m' : Nat} (h : PhN t n m) (h' : PhN t n m') : m = m' := by
  rcases Nat.lt_trichotomy m m' with q | q | q
  · have := h'.2 m q; have := h.1; omega
  · exact q
  · have := h.2 m' q; have := h'.1; omega
theorem cr_ge : ∀ (L : Nat) (t : Nat → Nat) (n p q : Nat), L ≤ cr t n p q ↔ p + L ≤ n ∧ (∀ x, x < L → t (p + x) = t (q + x)) ∨ L = 0 := by
  intro L
  induction L with
  | zero => intro t n p q; exact ⟨fun _ => Or.inr rfl, fun _ => Nat.zero_le _⟩
  | succ L ih =>
    intro t n p q
    rw [cr_s]
    by_cases h : p < n ∧ t p = t q
    · rw [if_pos h, Nat.succ_le_succ_iff, ih]
      constructor
      · rintro (⟨a, b⟩ | a)
        · refine Or.inl ⟨by omega, fun x hx => ?_⟩
          cases x with
          | zero => exact h.2
          | succ x =>
            have := b x (by omega)
            rw [show p + (x + 1) = p + 1 + x by omega, show q + (x + 1) = q + 1 + x by omega]; exact this
        · subst a
          refine Or.inl ⟨by omega, fun x hx => ?_⟩
          have : x = 0 := by omega
          subst this
          exact h.2
      · rintro (⟨a, b⟩ | a)
        · refine Or.inl ⟨by omega, fun x hx => ?_⟩
          have := b (x + 1) (by omega)
          rw [show p + 1 + x = p + (x + 1) by omega, show q + 1 + x = q + (x + 1) by omega]; exact this
        · omega
    · rw [if_neg h]
      constructor
      · intro z; omega
      · rintro (⟨a, b⟩ | a)
        · exact absurd ⟨by omega, b 0 (by omega)⟩ h
        · omega
/-- the reference's rows hold the first m phrases -/
def Phm (t : Nat → Nat) (n m : Nat) (a b c : Nat → Int32) : Prop := ∀ i, i < m → a i = nI (pP t n m i) ∧ b i = nI (pL t n m i) ∧ c i = pS t n m i
theorem pP_bd {t : Nat → Nat} {n : Nat} : ∀ m, (∀ i, i < m → pp t n i < n) → ∀ i, i < m → pP t n m i < pp t n m ∧ pL t n m i ≤ n ∧ 1 ≤ pL t n m i ∧ pP t n m i + pL t n m i ≤ pp t n m := by
  intro m
  induction m with
  | zero => intro _ i hi; exact absurd hi (Nat.not_lt_zero i)
  | succ m ih =>
    intro h i hi
    have h1 := pR_1 t n m
    have h2 := pR_n (h m (by omega))
    rw [pP_s, pL_s, pp_s]
    by_cases e : i = m
    · rw [e, tset_at, tset_at]; exact ⟨by omega, by omega, h1, Nat.le_refl _⟩
    · rw [tset_lt (by omega), tset_lt (by omega)]
      have := ih (fun j hj => h j (by omega)) i (by omega)
      omega
theorem phraseOf_m {τ : SS} {t : Nat → Nat} {n m L : Nat} (h : Tm τ t n) (h6 : τ.1 6 = nI m) (hall : ∀ i, i < m → pp t n i < n) (hp : pp t n m ≤ n) (hc : Phm t n m (τ.2 8) (τ.2 9) (τ.2 10)) (hL : 1 ≤ L) (hLn : pp t n m + L ≤ n) :
    f_m_X12_phraseOf τ (nI (pp t n m)) (nI L) = some (cdx (fx (QQ t (pP t n m) (pL t n m) (pp t n m) L) m) m, τ) := by
  have hn := h.2.1
  have hge := pp_ge t n m
  obtain ⟨s1, s2, s3⟩ := fx_spec (QQ t (pP t n m) (pL t n m) (pp t n m) L) m
  unfold f_m_X12_phraseOf
  refine L3_rule (I := fun k τ1 x1 x2 x3 => ∃ i, i + k = m ∧ x1 = nI (pp t n m) ∧ x2 = nI L ∧ x3 = nI i ∧ τ1 = τ ∧ i ≤ fx (QQ t (pP t n m) (pL t n m) (pp t n m) L) m) (O := fun o => o = some (cdx (fx (QQ t (pP t n m) (pL t n m) (pp t n m) L) m) m, τ)) ?_ FUEL m τ _ _ _ (by unfold FUEL; omega) ⟨0, by omega, rfl, rfl, i_0, rfl, Nat.zero_le _⟩
  rintro g k τ1 x1 x2 x3 ⟨i, hi, rfl, rfl, rfl, rfl, hif⟩ ih
  unfold f_m_X12_phraseOf_2
  rw [h6]
  by_cases q : i < m
  · obtain ⟨a1, a2, a3⟩ := hc i q
    obtain ⟨b1, b2, b3, b4⟩ := pP_bd m hall i q
    rw [if_neg (fun y => nI_ge q (by omega) y), gd_nI (show i < 400 by omega) (by decide), nI_clamp (by omega), a2, nI_1]
    have goOn : ¬ QQ t (pP t n m) (pL t n m) (pp t n m) L i → g τ1 (nI (pp t n m)) (nI L) (nI (i + 1)) = some (cdx (fx (QQ t (pP t n m) (pL t n m) (pp t n m) L) m) m, τ1) := fun hq =>
      ih (k - 1) _ _ _ _ (by omega) ⟨i + 1, by omega, rfl, rfl, rfl, rfl, by
        rcases Nat.lt_or_ge i (fx (QQ t (pP t n m) (pL t n m) (pp t n m) L) m) with z | z
        · exact z
        · have e : i = fx (QQ t (pP t n m) (pL t n m) (pp t n m) L) m := by omega
          exact absurd (e ▸ s2 (by omega)) hq⟩
    by_cases e : pL t n m i = L
    · have hcr := cr_ge L t n (pp t n m) (pP t n m i)
      have hcl := cr_le (n - pp t n m) t n (pp t n m) (pP t n m i) rfl
      rw [if_pos (by rw [e]), gd_nI (show i < 400 by omega) (by decide), a1, alike_m h b1 hp, bd_s]
      by_cases y : L ≤ cr t n (pp t n m) (pP t n m i)
      · rw [if_neg (nI_nlt y (by omega))]
        have hq : QQ t (pP t n m) (pL t n m) (pp t n m) L i := ⟨e, by
          rcases hcr.mp y with ⟨-, c2⟩ | c2
          · exact c2
          · omega⟩
        have hfi : fx (QQ t (pP t n m) (pL t n m) (pp t n m) L) m = i := by
          rcases Nat.lt_or_ge i (fx (QQ t (pP t n m) (pL t n m) (pp t n m) L) m) with z | z
          · exact absurd hq (s3 i z)
          · omega
        rw [hfi]
        unfold cdx
        rw [if_pos q]
      · rw [if_pos (nI_lt (by omega) (by omega))]
        exact goOn (fun hq => y (hcr.mpr (Or.inl ⟨hLn, hq.2⟩)))
    · rw [if_neg (fun y => e ((nI_eq (by omega) (by omega)).mp y))]
      exact goOn (fun hq => e hq.1)
  · have him : i = m := by omega
    rw [if_pos (nI_le (by omega) (by omega))]
    unfold cdx
    rw [if_neg (by omega)]
theorem findPhrases_m {τ : SS} {t : Nat → Nat} {n : Nat} (h : Tm τ t n) : ∃ τ' m, f_m_X12_findPhrases τ = some ((), τ') ∧ fr [6] [8, 9, 10] τ τ' ∧ PhN t n m ∧ τ'.1 6 = nI m ∧ Phm t n m (τ'.2 8) (τ'.2 9) (τ'.2 10) := by
  have hn := h.2.1
  unfold f_m_X12_findPhrases
  refine L1_rule (I := fun k τ1 x1 => ∃ m, m + k = n ∧ x1 = nI (pp t n m) ∧ pp t n m ≤ n ∧ (∀ i, i < m → pp t n i < n) ∧ fr [6] [8, 9, 10] τ τ1 ∧ τ1.1 6 = nI m ∧ Phm t n m (τ1.2 8) (τ1.2 9) (τ1.2 10)) (O := fun o => ∃ τ' m, o = some ((), τ') ∧ fr [6] [8, 9, 10] τ τ' ∧ PhN t n m ∧ τ'.1 6 = nI m ∧ Phm t n m (τ'.2 8) (τ'.2 9) (τ'.2 10)) ?_ FUEL n (putI τ 6 0) 0 (by unfold FUEL; omega) ⟨0, by omega, i_0, Nat.zero_le _, fun i hi => absurd hi (Nat.not_lt_zero i), (fr.rf τ).pI (by decide), i_0, fun i hi => absurd hi (Nat.not_lt_zero i)⟩
  rintro g k τ1 x1 ⟨m, hm, rfl, hPn, hlt, f1, h6, hc⟩ ih
  have h1 := h.fr f1 (by decide) (by decide)
  have hmm := pp_ge t n m
  unfold f_m_X12_findPhrases_7
  rw [h1.1]
  by_cases z : pp t n m < n
  · rw [if_neg (fun y => nI_ge z (by omega) y), i_1, phraseOf_m h1 h6 hlt hPn hc (Nat.le_refl 1) (by omega), bd_s]
    have hR1 := pR_1 t n m
    have hRn := pR_n z
    -- the end of a phrase
    obtain ⟨τ2, e2, f2, n2, a2, b2, c2⟩ := put_m (nI (pp t n m)) (nI (pR t n m).1) (pR t n m).2 h6 (by omega)
    have inner : L4 (f_m_X12_findPhrases_28 g) FUEL τ1 (nI (pp t n m)) (nI 1) (-2) (cdx (fx (QQ t (pP t n m) (pL t n m) (pp t n m) 1) m) m) = g τ2 (nI (pp t n (m + 1))) := by
      refine L4_rule (I := fun k2 τ3 x1 x2 x3 x4 => ∃ L, pp t n m + L + k2 = n ∧ 1 ≤ L ∧ x1 = nI (pp t n m) ∧ x2 = nI L ∧ τ3 = τ1 ∧ x4 = cdx (fx (QQ t (pP t n m) (pL t n m) (pp t n m) L) m) m ∧ scan (QQ t (pP t n m) (pL t n m) (pp t n m)) m k2 L x3 = pR t n m) (O := fun o => o = g τ2 (nI (pp t n (m + 1)))) ?_ FUEL (n - pp t n m - 1) τ1 _ _ _ _ (by unfold FUEL; omega) ⟨1, by omega, Nat.le_refl 1, rfl, rfl, rfl, rfl, rfl⟩
      rintro g2 k2 τ3 x1 x2 x3 x4 ⟨L, hL, hL1, rfl, rfl, rfl, rfl, hsc⟩ ih2
      have stop : ∀ y3 : Int32, pR t n m = (L, y3) → f_m_X12_findPhrases_78 g τ3 (nI (pp t n m)) (nI L) (nI (pp t n m)) (nI L) y3 = g τ2 (nI (pp t n (m + 1))) := by
        intro y3 hy
        unfold f_m_X12_findPhrases_78
        rw [hy] at e2
        rw [e2, bd_s, nI_add, pp_s, hy]
      unfold f_m_X12_findPhrases_28 f_m_X12_findPhrases_62
      by_cases q : fx (QQ t (pP t n m) (pL t n m) (pp t n m) L) m < m
      · have hcd : cdx (fx (QQ t (pP t n m) (pL t n m) (pp t n m) L) m) m = nI (fx (QQ t (pP t n m) (pL t n m) (pp t n m) L) m) := by unfold cdx; rw [if_pos q]
        have hne : ¬ cdx (fx (QQ t (pP t n m) (pL t n m) (pp t n m) L) m) m = -2 := by rw [hcd]; exact nI_m2 (by omega)
        rw [if_neg hne, h1.1, nI_add]
        by_cases y : pp t n m + L < n
        · obtain ⟨k3, rfl⟩ : ∃ k3, k2 = k3 + 1 := ⟨k2 - 1, by omega⟩
          rw [if_neg (fun w => nI_ge y (by omega) w), nI_1, phraseOf_m h1 h6 hlt hPn hc (by omega) (by omega), bd_s]
          refine ih2 k3 _ _ _ _ _ (by omega) ⟨L + 1, by omega, by omega, rfl, rfl, rfl, rfl, ?_⟩
          rw [hcd, ← scan_go q]; exact hsc
        · have hk2 : k2 = 0 := by omega
          subst hk2
          rw [if_pos (nI_le (by omega) (by omega)), if_neg hne]
          rw [scan_end q] at hsc
          exact stop _ (by rw [hcd]; exact hsc.symm)
      · have hcd : cdx (fx (QQ t (pP t n m) (pL t n m) (pp t n m) L) m) m = -2 := by unfold cdx; rw [if_neg q]
        rw [if_pos hcd, if_pos hcd]
        rw [scan_none q] at hsc
        exact stop _ hsc.symm
    rw [inner]
    refine ih (k - 1) _ _ (by omega) ⟨m + 1, by omega, rfl, by rw [pp_s]; exact hRn, fun i hi => ?_, f1.tr f2, n2, fun i hi => ?_⟩
    · by_cases y : i = m
      · rw [y]; exact z
      · exact hlt i (by omega)
    · rw [a2, b2, c2, upd_at, upd_at, upd_at, pP_s, pL_s, pS_s]
      by_cases y : i = m
      · rw [if_pos y, if_pos y, if_pos y, if_pos y, y, tset_at, tset_at]; exact ⟨rfl, rfl, rfl⟩
      · rw [if_neg y, if_neg y, if_neg y, if_neg y, tset_lt (by omega), tset_lt (by omega)]; exact hc i (by omega)
  · rw [if_pos (nI_le (by omega) (by omega))]
    exact ⟨τ1, m, rfl, f1, ⟨by omega, hlt⟩, h6, hc⟩
