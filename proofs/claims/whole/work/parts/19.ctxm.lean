/-! contexts: the reference -/
theorem same_m {τ : SS} {t : Nat → Nat} {n K a b : Nat} (h : Tm τ t n) (hK : K ≤ 3) (hk : τ.1 2 = nI K) (ha : K + a < n) (hb : K + b < n) :
    f_m_X12_isSameAhead τ (nI (K + a)) (nI (K + b)) = some (if cv t K a = cv t K b then 1 else 0, τ) := by
  have hn := h.2.1
  unfold f_m_X12_isSameAhead
  have goal : ∀ z : Int32, ((z = 1 ∧ ∀ i, 1 ≤ i → i < K + 1 → t (K + a - i) = t (K + b - i)) ∨ (z = 0 ∧ ¬ ∀ i, 1 ≤ i → i < K + 1 → t (K + a - i) = t (K + b - i))) → z = if cv t K a = cv t K b then 1 else 0 := by
    intro z hz
    have hiff : cv t K a = cv t K b ↔ ∀ i, 1 ≤ i → i < K + 1 → t (K + a - i) = t (K + b - i) := by
      unfold cv
      rw [cdk_inj (fun j hj => (h.2.2 (a + j) (by omega)).1) (fun j hj => (h.2.2 (b + j) (by omega)).1)]
      constructor
      · intro e i h1 h2
        have := e (K - i) (by omega)
        rw [show K + a - i = a + (K - i) by omega, show K + b - i = b + (K - i) by omega]; exact this
      · intro e j hj
        have := e (K - j) (by omega) (by omega)
        rw [show K + a - (K - j) = a + j by omega, show K + b - (K - j) = b + j by omega] at this; exact this
    rcases hz with ⟨h1, h2⟩ | ⟨h1, h2⟩
    · rw [if_pos (hiff.mpr h2)]; exact h1
    · rw [if_neg (fun q => h2 (hiff.mp q))]; exact h1
  refine L4_rule (I := fun k τ1 x1 x2 x3 x4 => ∃ j, j + k = K + 1 ∧ 1 ≤ j ∧ x1 = nI (K + a) ∧ x2 = nI (K + b) ∧ x4 = nI j ∧ τ1 = τ ∧ ((x3 = 1 ∧ ∀ i, 1 ≤ i → i < j → t (K + a - i) = t (K + b - i)) ∨ (x3 = 0 ∧ ¬ ∀ i, 1 ≤ i → i < j → t (K + a - i) = t (K + b - i)))) (O := fun o => o = some (if cv t K a = cv t K b then 1 else 0, τ)) ?_ FUEL K τ _ _ _ _ (by unfold FUEL; omega) ⟨1, by omega, Nat.le_refl 1, rfl, rfl, i_1, rfl, Or.inl ⟨rfl, fun i h1 h2 => by omega⟩⟩
  rintro g k τ1 x1 x2 x3 x4 ⟨j, hj, hj1, rfl, rfl, rfl, rfl, hx⟩ ih
  unfold f_m_X12_isSameAhead_5
  rw [hk]
  by_cases q : K < j
  · have : j = K + 1 := by omega
    subst this
    rw [if_pos (nI_lt (by omega) (by omega)), ← goal x3 hx]
    rcases hx with ⟨h1, -⟩ | ⟨h1, -⟩
    · rw [h1, gb_1]
    · rw [h1, gb_0]
  · rw [if_neg (nI_nlt (by omega) (by omega)), nI_1, pk_sub (by omega), pk_sub (by omega)]
    rcases hx with ⟨h1, h2⟩ | ⟨h1, h2⟩
    · have t1 := h.2.2 (K + a - j) (by omega)
      have t2 := h.2.2 (K + b - j) (by omega)
      rw [if_neg (by rw [h1]; decide), gd_nI (by omega) (by decide), gd_nI (by omega) (by decide), nI_clamp (by omega), nI_clamp (by omega), t1.2, t2.2]
      by_cases e : t (K + a - j) = t (K + b - j)
      · rw [if_pos (by rw [e])]
        refine ih (k - 1) _ _ _ _ _ (by omega) ⟨j + 1, by omega, by omega, rfl, rfl, rfl, rfl, Or.inl ⟨rfl, fun i i1 i2 => ?_⟩⟩
        by_cases z : i = j
        · rw [z]; exact e
        · exact h2 i i1 (by omega)
      · rw [if_neg (fun z => e ((nI_eq (by omega) (by omega)).mp z))]
        exact ih (k - 1) _ _ _ _ _ (by omega) ⟨j + 1, by omega, by omega, rfl, rfl, rfl, rfl, Or.inr ⟨rfl, fun z => e (z j hj1 (by omega))⟩⟩
    · rw [if_pos h1]
      exact ih (k - 1) _ _ _ _ _ (by omega) ⟨j + 1, by omega, by omega, rfl, rfl, rfl, rfl, Or.inr ⟨rfl, fun z => h2 (fun i i1 i2 => z i i1 (by omega))⟩⟩
/-- the reference's contexts behind m places -/
def Cm (τ : SS) (t : Nat → Nat) (K m : Nat) : Prop :=
  τ.1 3 = nI (fo (cv t K) m).length ∧ (∀ c x, (fo (cv t K) m)[c]? = some x → (∃ q, q < m ∧ cv t K q = x ∧ τ.2 2 c = nI (K + q)) ∧ τ.2 4 c = nI (cnt (ix (cv t K)) c m)) ∧
  ∀ j, j < 16 * (fo (cv t K) m).length → τ.2 3 j = nI (cnt (pr t K) j m)
theorem m106 {τ : SS} {t : Nat → Nat} {n p c : Nat} (h : Tm τ t n) (hp : p < n) (hc : c < 400) (g : SS → Int32 → Option (Unit × SS)) :
    f_m_X12_findContexts_106 g τ (nI p) (nI c) = g (putA (putA τ 4 c (τ.2 4 c + 1)) 3 (16 * c + t p) (τ.2 3 (16 * c + t p) + 1)) (nI (p + 1)) := by
  have hn := h.2.1
  have ht := h.2.2 p hp
  unfold f_m_X12_findContexts_106
  rw [gd_nI hc (by decide), gd_nI hc (by decide), gd_nI (show p < 400 by omega) (by decide), nI_clamp (by omega), nI_clamp (by omega)]
  rw [show (putA τ 4 c (τ.2 4 c + 1)).2 0 p = nI (t p) from ht.2, i_16, pk_mul, nI_add, gd_nI (by omega) (by decide), gd_nI (by omega) (by decide), nI_1, nI_clamp (by omega)]
  rfl
theorem m72 {τ : SS} {c : Nat} (hc : c < 400) (p : Int32) (g : SS → Int32 → Option (Unit × SS)) :
    ∃ τ', L3 (f_m_X12_findContexts_72 g) FUEL τ p (nI c) 0 = f_m_X12_findContexts_106 g (putI τ' 3 (τ'.1 3 + 1)) p (nI c) ∧ fr [] [3] τ τ' ∧ (∀ s, s < 16 → τ'.2 3 (16 * c + s) = 0) ∧ ∀ j, j < 16 * c → τ'.2 3 j = τ.2 3 j := by
  refine L3_rule (I := fun k τ1 x1 x2 x3 => ∃ i, i + k = 16 ∧ x1 = p ∧ x2 = nI c ∧ x3 = nI i ∧ fr [] [3] τ τ1 ∧ (∀ s, s < i → τ1.2 3 (16 * c + s) = 0) ∧ ∀ j, j < 16 * c → τ1.2 3 j = τ.2 3 j) (O := fun o => ∃ τ', o = f_m_X12_findContexts_106 g (putI τ' 3 (τ'.1 3 + 1)) p (nI c) ∧ fr [] [3] τ τ' ∧ (∀ s, s < 16 → τ'.2 3 (16 * c + s) = 0) ∧ ∀ j, j < 16 * c → τ'.2 3 j = τ.2 3 j) ?_ FUEL 16 τ _ _ _ (by decide) ⟨0, rfl, rfl, rfl, i_0, fr.rf τ, fun s hs => absurd hs (Nat.not_lt_zero s), fun j _ => rfl⟩
  rintro g72 k τ1 x1 x2 x3 ⟨i, hi, rfl, rfl, rfl, hf, hv, ho⟩ ih
  unfold f_m_X12_findContexts_72
  by_cases q : i < 16
  · rw [i_16, if_neg (fun z => nI_ge q (by decide) z), pk_mul, nI_add, gd_nI (by omega) (by decide), nI_1, nI_clamp (by omega)]
    refine ih (k - 1) _ _ _ _ (by omega) ⟨i + 1, by omega, rfl, rfl, rfl, hf.pA (by decide), fun s hs => ?_, fun j hj => ?_⟩
    · show upd (τ1.2 3) _ _ _ = _
      rw [upd_at]
      by_cases z : 16 * c + s = 16 * c + i
      · rw [if_pos z]
      · rw [if_neg z]; exact hv s (by omega)
    · show upd (τ1.2 3) _ _ _ = _
      rw [upd_at, if_neg (by omega)]; exact ho j hj
  · have : i = 16 := by omega
    subst this
    rw [i_16, if_pos (nI_le (Nat.le_refl _) (by decide))]
    exact ⟨τ1, rfl, hf, hv, ho⟩
theorem m20 {τ : SS} {t : Nat → Nat} {n K m : Nat} (h : Tm τ t n) (hK : K ≤ 3) (hk : τ.1 2 = nI K) (hm : K + m < n) (hx : Cm τ t K m) (g : SS → Int32 → Option (Unit × SS)) :
    L2 (f_m_X12_findContexts_20 g) FUEL τ (nI (K + m)) 0 = f_m_X12_findContexts_48 g τ (nI (K + m)) (nI (ix (cv t K) m)) := by
  have hn := h.2.1
  have ht : ∀ i, i < n → t i < 16 := fun i hi => (h.2.2 i hi).1
  have hle := fi_le (cv t K m) (fo (cv t K) m)
  have hlen := fo_len (cv t K) m
  refine L2_rule (I := fun k τ1 x1 x2 => ∃ i, i + k = (fo (cv t K) m).length ∧ i ≤ ix (cv t K) m ∧ x1 = nI (K + m) ∧ x2 = nI i ∧ τ1 = τ) (O := fun o => o = f_m_X12_findContexts_48 g τ (nI (K + m)) (nI (ix (cv t K) m))) ?_ FUEL (fo (cv t K) m).length τ _ _ (by unfold FUEL; omega) ⟨0, by omega, Nat.zero_le _, rfl, i_0, rfl⟩
  rintro g20 k τ1 x1 x2 ⟨i, hi, hix, rfl, rfl, rfl⟩ ih
  unfold f_m_X12_findContexts_20
  rw [hx.1]
  by_cases q : i < (fo (cv t K) m).length
  · obtain ⟨x, hxi, -⟩ := fo_get q
    obtain ⟨⟨b, hb1, hb2, hb3⟩, -⟩ := hx.2.1 i x hxi
    rw [if_neg (fun z => nI_ge q (by omega) z), gd_nI (show i < 400 by omega) (by decide), nI_clamp (by omega), hb3, same_m h hK hk (by omega) hm, bd_s]
    by_cases e : x = cv t K m
    · have hii : i = ix (cv t K) m := by
        rcases Nat.lt_or_ge i (ix (cv t K) m) with z | z
        · rw [e] at hxi; exact absurd hxi (fi_ne z)
        · omega
      rw [hb2, if_pos e, if_neg (by decide), hii]
    · rw [hb2, if_neg e, if_pos rfl, nI_1]
      have hne : i ≠ ix (cv t K) m := fun z => by
        unfold ix at z
        rw [z] at hxi
        have h9 := fi_at (x := cv t K m) (l := fo (cv t K) m) (by omega)
        rw [h9] at hxi
        exact e (Option.some.inj hxi).symm
      exact ih (k - 1) _ _ _ (by omega) ⟨i + 1, by omega, by omega, rfl, rfl, rfl⟩
  · have hii : i = ix (cv t K) m := by unfold ix at hix ⊢; omega
    rw [if_pos (nI_le (by omega) (by omega)), hii]
theorem mctx_step {τ : SS} {t : Nat → Nat} {n K m : Nat} (h : Tm τ t n) (hK : K ≤ 3) (hk : τ.1 2 = nI K) (hm : K + m < n) (hx : Cm τ t K m) (g : SS → Int32 → Option (Unit × SS)) :
    ∃ τ', f_m_X12_findContexts_10 g τ (nI (K + m)) = g τ' (nI (K + (m + 1))) ∧ fr [3] [2, 3, 4] τ τ' ∧ Cm τ' t K (m + 1) := by
  have hn := h.2.1
  have ht := (h.2.2 (K + m) hm).1
  have hl1 := fo_len (cv t K) (m + 1)
  have hi1 := ix_lt (cv t K) m
  have hlen := fo_len (cv t K) m
  have hle := fi_le (cv t K m) (fo (cv t K) m)
  unfold f_m_X12_findContexts_10
  rw [if_neg (by rw [h.1]; exact fun z => nI_ge hm (by omega) z), m20 h hK hk hm hx g]
  unfold f_m_X12_findContexts_48
  rw [hx.1]
  -- what the last step does to a state that holds the counts of m places over the new contexts
  have last : ∀ τ1 : SS, fr [3] [2, 3, 4] τ τ1 → τ1.1 3 = nI (fo (cv t K) (m + 1)).length → (∀ c x, (fo (cv t K) (m + 1))[c]? = some x → (∃ q, q < m + 1 ∧ cv t K q = x ∧ τ1.2 2 c = nI (K + q)) ∧ τ1.2 4 c = nI (cnt (ix (cv t K)) c m)) → (∀ j, j < 16 * (fo (cv t K) (m + 1)).length → τ1.2 3 j = nI (cnt (pr t K) j m)) →
      ∃ τ', f_m_X12_findContexts_106 g τ1 (nI (K + m)) (nI (ix (cv t K) m)) = g τ' (nI (K + (m + 1))) ∧ fr [3] [2, 3, 4] τ τ' ∧ Cm τ' t K (m + 1) := by
    intro τ1 f1 n1 c1 j1
    have h1 := h.fr f1 (by decide) (by decide)
    refine ⟨_, m106 h1 hm (by omega) g, (f1.pA (by decide)).pA (by decide), n1, ?_, ?_⟩
    · intro c x hc
      obtain ⟨ha, hb⟩ := c1 c x hc
      refine ⟨ha, ?_⟩
      show upd (τ1.2 4) _ _ c = _
      rw [upd_at]
      unfold cnt
      by_cases e : c = ix (cv t K) m
      · rw [if_pos e, if_pos e.symm, ← e, hb, nI_1]
      · rw [if_neg e, if_neg (fun z => e z.symm)]; exact hb
    · intro j hj
      show upd (τ1.2 3) _ _ j = _
      rw [upd_at]
      have hpr : pr t K m = 16 * ix (cv t K) m + t (K + m) := rfl
      unfold cnt
      by_cases e : j = 16 * ix (cv t K) m + t (K + m)
      · rw [if_pos e, if_pos (by rw [hpr, e]), ← e, j1 j hj, nI_1]
      · rw [if_neg e, if_neg (fun z => e (by rw [← z, hpr]))]; exact j1 j hj
  by_cases q : fi (cv t K m) (fo (cv t K) m) < (fo (cv t K) m).length
  · rw [if_neg (fun z => by have := (nI_eq (by omega) (by omega)).mp z; unfold ix at this; omega)]
    refine last τ (fr.rf τ) ?_ ?_ ?_
    · rw [fo_s, if_pos q]; exact hx.1
    · rw [fo_s, if_pos q]
      intro c x hc
      obtain ⟨⟨b, b1, b2, b3⟩, hb⟩ := hx.2.1 c x hc
      exact ⟨⟨b, by omega, b2, b3⟩, hb⟩
    · rw [fo_s, if_pos q]; exact hx.2.2
  · have e : ix (cv t K) m = (fo (cv t K) m).length := by unfold ix; omega
    rw [if_pos (by rw [e]), gd_nI (by omega) (by decide), gd_nI (by omega) (by decide), nI_clamp (by omega)]
    obtain ⟨τ1, e1, f1, z1, o1⟩ := m72 (τ := putA (putA τ 2 (ix (cv t K) m) (nI (K + m))) 4 (ix (cv t K) m) 0) (c := ix (cv t K) m) (by omega) (nI (K + m)) g
    rw [e1]
    have f2 : fr [3] [2, 3, 4] τ τ1 := fr.tr (((fr.rf τ).pA (by decide)).pA (by decide)) (f1.up (by decide) (by decide))
    refine last _ (f2.pI (by decide)) ?_ ?_ ?_
    · show τ1.1 3 + 1 = _
      rw [f1.1 3 (by decide)]
      show τ.1 3 + 1 = _
      rw [hx.1, nI_1, fo_s, if_neg q, List.length_append]; rfl
    · rw [fo_s, if_neg q]
      intro c x hc
      show (∃ q, q < m + 1 ∧ cv t K q = x ∧ τ1.2 2 c = nI (K + q)) ∧ τ1.2 4 c = _
      rw [f1.2 2 (by decide), f1.2 4 (by decide)]
      show (∃ q, q < m + 1 ∧ cv t K q = x ∧ upd (τ.2 2) _ _ c = nI (K + q)) ∧ upd (τ.2 4) _ _ c = _
      rw [upd_at, upd_at]
      by_cases ec : c = ix (cv t K) m
      · rw [if_pos ec, if_pos ec]
        rw [ec, e, List.getElem?_append_right (Nat.le_refl _), Nat.sub_self] at hc
        refine ⟨⟨m, by omega, Option.some.inj hc, rfl⟩, ?_⟩
        rw [ec, e, cnt_new]; exact i_0
      · rw [if_neg ec, if_neg ec]
        have hcl : c < (fo (cv t K) m).length := by
          have h9 := (List.getElem?_eq_some_iff.mp hc).1
          rw [List.length_append] at h9
          simp only [List.length_cons, List.length_nil] at h9
          omega
        rw [List.getElem?_append_left hcl] at hc
        obtain ⟨⟨b, b1, b2, b3⟩, hb⟩ := hx.2.1 c x hc
        exact ⟨⟨b, by omega, b2, b3⟩, hb⟩
    · rw [fo_s, if_neg q, List.length_append]
      intro j hj
      show τ1.2 3 j = _
      simp only [List.length_cons, List.length_nil] at hj
      by_cases z : j < 16 * (fo (cv t K) m).length
      · rw [o1 j (by omega)]
        exact hx.2.2 j z
      · obtain ⟨s, hs, rfl⟩ : ∃ s, s < 16 ∧ j = 16 * ix (cv t K) m + s := ⟨j - 16 * ix (cv t K) m, by omega, by omega⟩
        rw [z1 s hs]
        have : cnt (pr t K) (16 * ix (cv t K) m + s) m = 0 := by
          rcases Nat.eq_zero_or_pos (cnt (pr t K) (16 * ix (cv t K) m + s) m) with y | y
          · exact y
          · obtain ⟨b, b1, b2⟩ := cnt_pos.mp y
            unfold pr at b2
            have h8 := ix_lt' (v := cv t K) b1
            have h7 := (h.2.2 (K + b) (by omega)).1
            omega
        rw [this]; exact i_0
theorem findContexts_m {τ : SS} {t : Nat → Nat} {n K : Nat} (h : Tm τ t n) (hK : K ≤ 3) (hk : τ.1 2 = nI K) :
    ∃ τ', f_m_X12_findContexts τ = some ((), τ') ∧ fr [3] [2, 3, 4] τ τ' ∧ Cm τ' t K (np n K) := by
  have hn := h.2.1
  unfold f_m_X12_findContexts
  rw [show (putI τ 3 0).1 2 = nI (K + 0) from hk]
  refine L1_rule (I := fun k τ1 x => ∃ m, m + k = np n K ∧ x = nI (K + m) ∧ fr [3] [2, 3, 4] τ τ1 ∧ Cm τ1 t K m) (O := fun o => ∃ τ', o = some ((), τ') ∧ fr [3] [2, 3, 4] τ τ' ∧ Cm τ' t K (np n K)) ?_ FUEL (np n K) _ _ (by unfold FUEL np; omega) ⟨0, by omega, rfl, (fr.rf τ).pI (by decide), ⟨i_0, fun c x hc => (by cases hc), fun j hj => absurd hj (Nat.not_lt_zero j)⟩⟩
  rintro g k τ1 x ⟨m, hm, rfl, f1, hx⟩ ih
  have h1 := h.fr f1 (by decide) (by decide)
  by_cases z : K + m < n
  · obtain ⟨τ2, e2, f2, hx2⟩ := mctx_step h1 hK (by rw [f1.1 2 (by decide)]; exact hk) z hx g
    rw [e2]
    exact ih (k - 1) _ _ (by unfold np at hm; omega) ⟨m + 1, by unfold np at hm ⊢; omega, rfl, f1.tr f2, hx2⟩
  · unfold f_m_X12_findContexts_10
    rw [if_pos (by rw [h1.1]; unfold np at hm; exact nI_le (by omega) (by omega))]
    have : m = np n K := by unfold np at hm ⊢; omega
    subst this
    exact ⟨τ1, rfl, f1, hx⟩
