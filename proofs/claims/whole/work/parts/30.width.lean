/-! step widths; width, bits -/
/-- the least w with 2^w times c not below n (0 if c is 0) -/
def IsSW (c n w : Nat) : Prop := (c = 0 ∧ w = 0) ∨ (0 < c ∧ n ≤ c * 2 ^ w ∧ ∀ w', w' < w → c * 2 ^ w' < n)
theorem IsSW_eq {c n w w' : Nat} (h : IsSW c n w) (h' : IsSW c n w') : w = w' := by
  rcases h with ⟨a1, a2⟩ | ⟨a1, a2, a3⟩ <;> rcases h' with ⟨b1, b2⟩ | ⟨b1, b2, b3⟩
  · omega
  · omega
  · omega
  · rcases Nat.lt_trichotomy w w' with q | q | q
    · have := b3 w q; omega
    · exact q
    · have := a3 w' q; omega
theorem shl_nI : ∀ w, w < 10 → ∀ c, c ≤ 400 → nI c <<< (nI w &&& 31) = nI (c * 2 ^ w) := by
  intro w hw c hc
  have hs : ∀ k, k < 32 → ((nI k &&& 31).toBitVec.smod 32).toNat = k := by decide +kernel
  have hp : 2 ^ w ≤ 2 ^ 9 := Nat.pow_le_pow_right (by decide) (by omega)
  have hm : c * 2 ^ w ≤ 400 * 2 ^ 9 := Nat.mul_le_mul hc hp
  exact pk_shlN _ w (hs w (by omega)) (by omega)
theorem i_10 : (10 : Int32) = nI 10 := by decide
theorem pow_9 {c n w : Nat} (hc : 0 < c) (hn : n ≤ 400) (h : c * 2 ^ w < n) : w < 9 := by
  rcases Nat.lt_or_ge w 9 with q | q
  · exact q
  · have h1 : 2 ^ 9 ≤ 2 ^ w := Nat.pow_le_pow_right (by decide) q
    have h2 : 1 * 2 ^ 9 ≤ c * 2 ^ w := Nat.mul_le_mul hc h1
    omega
theorem step_c {σ : SS} {c n : Nat} (hc : c ≤ 400) (hn : n ≤ 400) : ∃ w, f_c_X10_stepWidth σ (nI c) (nI n) = some (nI w, σ) ∧ IsSW c n w ∧ w < 10 := by
  unfold f_c_X10_stepWidth
  refine L3_rule (I := fun k σ1 x1 x2 x3 => ∃ i, i + k = 10 ∧ x1 = nI c ∧ x2 = nI n ∧ x3 = nI i ∧ σ1 = σ ∧ (0 < i → 0 < c) ∧ ∀ w', w' < i → c * 2 ^ w' < n) (O := fun o => ∃ w, o = some (nI w, σ) ∧ IsSW c n w ∧ w < 10) ?_ FUEL 10 σ _ _ _ (by decide) ⟨0, rfl, rfl, rfl, i_0, rfl, fun z => absurd z (Nat.lt_irrefl 0), fun w hw => absurd hw (Nat.not_lt_zero w)⟩
  rintro g k σ1 x1 x2 x3 ⟨i, hi, rfl, rfl, rfl, rfl, hp, hv⟩ ih
  unfold f_c_X10_stepWidth_2
  rw [i_0]
  by_cases p : 0 < c
  · have hi9 : i ≤ 9 := by
      by_cases z : i = 0
      · omega
      · have := pow_9 p hn (hv (i - 1) (by omega))
        omega
    rw [if_neg (fun z => nI_ge p (by omega) z), i_10, if_neg (fun z => nI_ge (show i < 10 by omega) (by decide) z), shl_nI i (by omega) c hc, nI_1]
    have hpw : 2 ^ i ≤ 2 ^ 9 := Nat.pow_le_pow_right (by decide) hi9
    have hm : c * 2 ^ i ≤ 400 * 2 ^ 9 := Nat.mul_le_mul hc hpw
    by_cases e : n ≤ c * 2 ^ i
    · rw [if_pos (nI_le e (by omega))]
      exact ⟨i, rfl, Or.inr ⟨p, e, hv⟩, by omega⟩
    · rw [if_neg (fun z => e ((nI_leI (by omega) (by omega)).mp z))]
      refine ih (k - 1) _ _ _ _ (by omega) ⟨i + 1, by omega, rfl, rfl, rfl, rfl, fun _ => p, fun w hw => ?_⟩
      by_cases z : w = i
      · rw [z]; omega
      · exact hv w (by omega)
  · rw [if_pos (nI_le (by omega) (by decide))]
    have : i = 0 := by
      rcases Nat.eq_zero_or_pos i with z | z
      · exact z
      · exact absurd (hp z) p
    subst this
    exact ⟨0, rfl, Or.inl ⟨by omega, rfl⟩, by decide⟩
theorem step_m {τ : SS} {t : Nat → Nat} {n s : Nat} (h : Tm τ t n) (hs : s < 16) : ∃ w, f_m_X12_stepWidth τ (nI s) = some (nI w, τ) ∧ IsSW (cnt t s n) n w := by
  have hn := h.2.1
  have hc := cnt_le t s n
  unfold f_m_X12_stepWidth
  rw [h.1, often_m h hs (Nat.le_refl n), bd_s, nI_l (by omega)]
  refine L2_rule (I := fun k τ1 x1 x2 => ∃ i, i + k = 10 ∧ x1 = lN (cnt t s n) ∧ x2 = nI i ∧ τ1 = τ ∧ (0 < i → 0 < cnt t s n) ∧ ∀ w', w' < i → cnt t s n * 2 ^ w' < n) (O := fun o => ∃ w, o = some (nI w, τ) ∧ IsSW (cnt t s n) n w) ?_ FUEL 10 τ _ _ (by decide) ⟨0, rfl, rfl, i_0, rfl, fun z => absurd z (Nat.lt_irrefl 0), fun w hw => absurd hw (Nat.not_lt_zero w)⟩
  rintro g k τ1 x1 x2 ⟨i, hi, rfl, rfl, rfl, hp, hv⟩ ih
  unfold f_m_X12_stepWidth_14
  by_cases p : 0 < cnt t s n
  · have hi9 : i ≤ 9 := by
      by_cases z : i = 0
      · omega
      · have := pow_9 p hn (hv (i - 1) (by omega))
        omega
    have hle : ¬ lg_cmp (lN (cnt t s n)) 0 ≤ 0 := by
      intro z
      have a : (0 : Int32) < lg_cmp (lN (cnt t s n)) 0 := (lc_gt _ _).mpr (by rw [j_0, pk_lLT (by decide) (by omega)]; exact p)
      rw [Int32.lt_iff_toInt_lt] at a
      rw [Int32.le_iff_toInt_le] at z
      omega
    have hpw : 2 ^ i ≤ 2 ^ 9 := Nat.pow_le_pow_right (by decide) hi9
    have hm : cnt t s n * 2 ^ i ≤ 400 * 2 ^ 9 := Nat.mul_le_mul (by omega) hpw
    rw [if_neg hle, wb_shl _ (by omega), h.1, nI_l (by omega), nI_1]
    by_cases e : n ≤ cnt t s n * 2 ^ i
    · rw [if_pos ((lg_cmp_ge _ _).mpr ((pk_lLE (by omega) (by omega)).mpr e))]
      exact ⟨i, rfl, Or.inr ⟨p, e, hv⟩⟩
    · rw [if_neg (fun z => e ((pk_lLE (by omega) (by omega)).mp ((lg_cmp_ge _ _).mp z)))]
      refine ih (k - 1) _ _ _ (by omega) ⟨i + 1, by omega, rfl, rfl, rfl, fun _ => p, fun w hw => ?_⟩
      by_cases z : w = i
      · rw [z]; omega
      · exact hv w (by omega)
  · have : i = 0 := by
      rcases Nat.eq_zero_or_pos i with z | z
      · exact z
      · exact absurd (hp z) p
    subst this
    have e0 : cnt t s n = 0 := by omega
    rw [e0, if_pos (by decide)]
    exact ⟨0, rfl, Or.inl ⟨rfl, rfl⟩⟩
/-- one sign's width of a kind, on both sides -/
theorem widthK {σ τ : SS} {t : Nat → Nat} {n kind s : Nat} (h : Tc σ t n) (hm : Tm τ t n) (hW : Wd σ t n) {wd : Nat → Nat} (hT : WT t n wd) (hv : ∀ s, s < 16 → τ.2 7 s = nI (wd s)) (hk : kind ≤ 1) (hs : s < 16) :
    ∃ r : Int32, f_c_X11_widthOfKind σ (nI kind) (nI s) = some (r, σ) ∧ ((kind = 0 ∧ τ.2 7 s = r) ∨ (kind = 1 ∧ f_m_X12_stepWidth τ (nI s) = some (r, τ))) := by
  have hn := h.2.1
  unfold f_c_X11_widthOfKind
  rcases (show kind = 0 ∨ kind = 1 by omega) with rfl | rfl
  · obtain ⟨wd2, w1, w2⟩ := hW
    rw [if_pos (by decide), gd_nI hs (by decide), nI_clamp (by omega), w2 s hs]
    exact ⟨_, rfl, Or.inl ⟨rfl, by rw [hv s hs, WT_eq hT w1 s hs]⟩⟩
  · have hc := cnt_le t s n
    obtain ⟨w, e1, w1, -⟩ := step_c (σ := σ) (c := cnt t s n) (n := n) (by omega) hn
    obtain ⟨w', e2, w2⟩ := step_m hm hs
    rw [if_neg (by decide), gd_nI hs (by decide), nI_clamp (by omega), h.2.2.2 s hs, h.1, e1, bd_s]
    exact ⟨_, rfl, Or.inr ⟨rfl, by rw [e2, IsSW_eq w2 w1]⟩⟩
theorem width_both {σ τ : SS} {t : Nat → Nat} {n : Nat} (h : Tc σ t n) (hm : Tm τ t n) (hs : σ.1 8 = σ.1 1 → Wd σ t n) (x y : Int32) :
    ∃ r σ' τ', f_c_X11_width σ x y = some (r, σ') ∧ f_m_X12_width τ x y = some (r, τ') ∧ (σ'.1 8 = σ'.1 1 → Wd σ' t n) ∧ (σ'.1 8 = σ.1 8 ∨ σ'.1 8 = σ.1 1) ∧ fr [7, 8] [10, 11, 12] σ σ' ∧ fr [0, 4, 5] [5, 6, 7] τ τ' := by
  have f1 : fr [0, 4, 5] [5, 6, 7] τ (putI τ 0 0) := (fr.rf τ).pI (by decide)
  have f1' : fr [0] [] τ (putI τ 0 0) := (fr.rf τ).pI (by decide)
  unfold f_c_X11_width f_m_X12_width
  rw [wi_c, bd_s, isKind_m, bd_s]
  by_cases hx : wi x 0 1 = 0
  · rw [if_pos hx, if_pos hx]; exact ⟨_, σ, _, rfl, rfl, hs, Or.inl rfl, fr.rf σ, f1⟩
  · rw [if_neg hx, if_neg hx, isSign_c, bd_s, isSign_m, bd_s]
    by_cases hy : wi y 0 15 = 0
    · rw [if_pos hy, if_pos hy]; exact ⟨_, σ, _, rfl, rfl, hs, Or.inl rfl, fr.rf σ, f1⟩
    · rw [if_neg hy, if_neg hy]
      obtain ⟨kind, hk, rfl⟩ := wi_nI (b := 1) (by decide) hx
      obtain ⟨s, hs16, rfl⟩ := sign_ok hy
      obtain ⟨σ1, e1, g1, w1, s1⟩ := follow_w h hs
      obtain ⟨τ1, wd, e2, w2, v2, f2⟩ := findWords_m (hm.fr f1' (by decide) (by decide))
      have f3 := f1.tr (f2.up (I' := [0, 4, 5]) (A' := [5, 6, 7]) (by decide) (by decide))
      obtain ⟨r, e3, hr⟩ := widthK (kind := kind) (s := s) (h.fr g1 (by decide) (by decide) (by decide)) (hm.fr f3 (by decide) (by decide)) w1 w2 v2 hk hs16
      rw [e1, bd_s, e3, bd_s, e2, bd_s]
      rcases hr with ⟨rfl, r1⟩ | ⟨rfl, r1⟩
      · rw [if_pos (by decide), gd_nI hs16 (by decide), nI_clamp (by omega), r1]
        exact ⟨_, σ1, τ1, rfl, rfl, fun _ => w1, Or.inr s1, g1, f3⟩
      · rw [if_neg (by decide), r1, bd_s]
        exact ⟨_, σ1, τ1, rfl, rfl, fun _ => w1, Or.inr s1, g1, f3⟩
theorem bits_both {σ τ : SS} {t : Nat → Nat} {n : Nat} (h : Tc σ t n) (hm : Tm τ t n) (hs : σ.1 8 = σ.1 1 → Wd σ t n) (x : Int32) :
    ∃ r σ' τ', f_c_X11_bits σ x = some (r, σ') ∧ f_m_X12_bits τ x = some (r, τ') ∧ (σ'.1 8 = σ'.1 1 → Wd σ' t n) ∧ (σ'.1 8 = σ.1 8 ∨ σ'.1 8 = σ.1 1) ∧ fr [7, 8] [10, 11, 12] σ σ' ∧ fr [0, 4, 5] [5, 6, 7] τ τ' := by
  have f1 : fr [0, 4, 5] [5, 6, 7] τ (putI τ 0 0) := (fr.rf τ).pI (by decide)
  have f1' : fr [0] [] τ (putI τ 0 0) := (fr.rf τ).pI (by decide)
  unfold f_c_X11_bits f_m_X12_bits
  rw [wi_c, bd_s, isKind_m, bd_s]
  by_cases hx : wi x 0 1 = 0
  · rw [if_pos hx, if_pos hx]; exact ⟨_, σ, _, rfl, rfl, hs, Or.inl rfl, fr.rf σ, f1⟩
  · rw [if_neg hx, if_neg hx]
    obtain ⟨kind, hk, rfl⟩ := wi_nI (b := 1) (by decide) hx
    obtain ⟨σ1, e1, g1, w1, s1⟩ := follow_w h hs
    obtain ⟨τ1, wd, e2, w2, v2, f2⟩ := findWords_m (hm.fr f1' (by decide) (by decide))
    have f3 := f1.tr (f2.up (I' := [0, 4, 5]) (A' := [5, 6, 7]) (by decide) (by decide))
    have h1 := h.fr g1 (by decide) (by decide) (by decide)
    have hm1 := hm.fr f3 (by decide) (by decide)
    rw [e1, bd_s, e2, bd_s]
    -- the sum from a sign on, both sides
    have key : ∀ k i (x2 : Int32), i + k = 16 → ∃ r : Int32, (∀ F, k < F → L3 f_c_X11_bits_26 F σ1 (nI kind) x2 (nI i) = some (r, σ1)) ∧ ∀ F, k < F → L3 f_m_X12_bits_22 F τ1 (nI kind) x2 (nI i) = some (r, τ1) := by
      intro k
      induction k with
      | zero =>
        intro i x2 hi
        have : i = 16 := by omega
        subst this
        refine ⟨x2, fun F hF => ?_, fun F hF => ?_⟩
        · obtain ⟨F', rfl⟩ : ∃ F', F = F' + 1 := ⟨F - 1, by omega⟩
          show f_c_X11_bits_26 (L3 f_c_X11_bits_26 F') σ1 (nI kind) x2 (nI 16) = _
          unfold f_c_X11_bits_26
          rw [i_16, if_pos (nI_le (Nat.le_refl _) (by decide))]
        · obtain ⟨F', rfl⟩ : ∃ F', F = F' + 1 := ⟨F - 1, by omega⟩
          show f_m_X12_bits_22 (L3 f_m_X12_bits_22 F') τ1 (nI kind) x2 (nI 16) = _
          unfold f_m_X12_bits_22
          rw [i_16, if_pos (nI_le (Nat.le_refl _) (by decide))]
      | succ k ih =>
        intro i x2 hi
        have q : i < 16 := by omega
        obtain ⟨r, e3, hr⟩ := widthK (kind := kind) (s := i) h1 hm1 w1 w2 v2 hk q
        obtain ⟨r2, c2, m2⟩ := ih (i + 1) (x2 + nI (cnt t i n) * r) (by omega)
        refine ⟨r2, fun F hF => ?_, fun F hF => ?_⟩
        · obtain ⟨F', rfl⟩ : ∃ F', F = F' + 1 := ⟨F - 1, by omega⟩
          show f_c_X11_bits_26 (L3 f_c_X11_bits_26 F') σ1 (nI kind) x2 (nI i) = _
          have c3 := c2 F' (by omega)
          generalize L3 f_c_X11_bits_26 F' = g at c3 ⊢
          unfold f_c_X11_bits_26
          rw [i_16, if_neg (fun z => nI_ge q (by decide) z), gd_nI q (by decide), e3, bd_s, nI_clamp (by omega), h1.2.2.2 i q, nI_1]
          exact c3
        · obtain ⟨F', rfl⟩ : ∃ F', F = F' + 1 := ⟨F - 1, by omega⟩
          show f_m_X12_bits_22 (L3 f_m_X12_bits_22 F') τ1 (nI kind) x2 (nI i) = _
          have m3 := m2 F' (by omega)
          generalize L3 f_m_X12_bits_22 F' = g at m3 ⊢
          unfold f_m_X12_bits_22 f_m_X12_bits_56
          rw [i_16, if_neg (fun z => nI_ge q (by decide) z), hm1.1, often_m hm1 q (Nat.le_refl n), bd_s]
          rcases hr with ⟨k0, r1⟩ | ⟨k0, r1⟩
          · rw [if_pos (by rw [k0]; decide), gd_nI q (by decide), nI_clamp (by omega), r1, nI_1]
            exact m3
          · rw [if_neg (by rw [k0]; decide), r1, bd_s, nI_1]
            exact m3
    obtain ⟨r, c1, m1⟩ := key 16 0 0 rfl
    rw [i_0] at c1 m1
    have c2 := c1 FUEL (by decide)
    have m2 := m1 FUEL (by decide)
    rw [← i_0] at c2 m2
    rw [c2, m2]
    exact ⟨_, σ1, τ1, rfl, rfl, fun _ => w1, Or.inr s1, g1, f3⟩
