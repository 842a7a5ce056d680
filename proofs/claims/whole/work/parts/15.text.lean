/-! texts, weights, bounds -/
/-- how often s stands among the first n -/
def cnt (t : Nat → Nat) (s : Nat) : Nat → Nat
  | 0 => 0
  | n + 1 => cnt t s n + (if t n = s then 1 else 0)
theorem cnt_le (t : Nat → Nat) (s n : Nat) : cnt t s n ≤ n := by
  induction n with
  | zero => exact Nat.le_refl 0
  | succ n ih => unfold cnt; split <;> omega
theorem cnt_congr {t t' : Nat → Nat} {s n : Nat} (h : ∀ i, i < n → t i = t' i) : cnt t s n = cnt t' s n := by
  induction n with
  | zero => rfl
  | succ n ih => unfold cnt; rw [ih (fun i hi => h i (by omega)), h n (by omega)]
def Tc (σ : SS) (t : Nat → Nat) (n : Nat) : Prop := σ.1 0 = nI n ∧ n ≤ 400 ∧ (∀ i, i < n → t i < 16 ∧ σ.2 0 i = nI (t i)) ∧ ∀ s, s < 16 → σ.2 1 s = nI (cnt t s n)
def Tm (τ : SS) (t : Nat → Nat) (n : Nat) : Prop := τ.1 1 = nI n ∧ n ≤ 400 ∧ ∀ i, i < n → t i < 16 ∧ τ.2 0 i = nI (t i)
theorem Tc.fr {I A : List Nat} {σ σ' : SS} {t : Nat → Nat} {n : Nat} (h : Tc σ t n) (f : fr I A σ σ') (h0 : 0 ∉ I) (h1 : 0 ∉ A) (h2 : 1 ∉ A) : Tc σ' t n := ⟨(f.1 0 h0).trans h.1, h.2.1, fun i hi => ⟨(h.2.2.1 i hi).1, by rw [f.2 0 h1]; exact (h.2.2.1 i hi).2⟩, fun s hs => by rw [f.2 1 h2]; exact h.2.2.2 s hs⟩
theorem Tm.fr {I A : List Nat} {σ σ' : SS} {t : Nat → Nat} {n : Nat} (h : Tm σ t n) (f : fr I A σ σ') (h0 : 1 ∉ I) (h1 : 0 ∉ A) : Tm σ' t n := ⟨(f.1 1 h0).trans h.1, h.2.1, fun i hi => ⟨(h.2.2 i hi).1, by rw [f.2 0 h1]; exact (h.2.2 i hi).2⟩⟩
/-- in bounds: 1, else 0 -/
def wi (x a b : Int32) : Int32 := if x < a then 0 else if b < x then 0 else 1
theorem wi_c (σ : SS) (x a b : Int32) : f_c_X11_within σ x a b = some (wi x a b, σ) := by
  unfold f_c_X11_within wi
  by_cases h1 : x < a
  · rw [if_pos h1, if_pos h1]
  · rw [if_neg h1, if_neg h1]
    by_cases h2 : b < x
    · rw [if_pos h2, if_pos h2]
    · rw [if_neg h2, if_neg h2]
theorem wi_or (x a b : Int32) : wi x a b = 0 ∨ wi x a b = 1 ∧ a ≤ x ∧ x ≤ b := by
  unfold wi
  by_cases h1 : x < a
  · rw [if_pos h1]; exact Or.inl rfl
  · rw [if_neg h1]
    by_cases h2 : b < x
    · rw [if_pos h2]; exact Or.inl rfl
    · rw [if_neg h2]
      refine Or.inr ⟨rfl, ?_, ?_⟩
      · rw [Int32.le_iff_toInt_le]; rw [Int32.lt_iff_toInt_lt] at h1; omega
      · rw [Int32.le_iff_toInt_le]; rw [Int32.lt_iff_toInt_lt] at h2; omega
theorem wi_gb {β : Type} (x a b : Int32) (k : Option β) : gb (wi x a b) k = k := by
  rcases wi_or x a b with h | h
  · rw [h, gb_0]
  · rw [h.1, gb_1]
theorem i64_lt (x y : Int32) : x.toInt64 < y.toInt64 ↔ x < y := by
  rw [Int64.lt_iff_toInt_lt, Int32.lt_iff_toInt_lt, Int32.toInt_toInt64, Int32.toInt_toInt64]
theorem wi_m (σ : SS) (x a b : Int32) : f_m_X12_in σ x.toInt64 a.toInt64 b.toInt64 = some (wi x a b, σ) := by
  unfold f_m_X12_in wi
  by_cases h1 : x < a
  · rw [if_pos h1, if_pos ((lc_lt _ _).mpr ((i64_lt _ _).mpr h1))]
  · rw [if_neg h1, if_neg (fun q => h1 ((i64_lt _ _).mp ((lc_lt _ _).mp q)))]
    by_cases h2 : b < x
    · rw [if_pos h2, if_pos ((lc_gt _ _).mpr ((i64_lt _ _).mpr h2))]
    · rw [if_neg h2, if_neg (fun q => h2 ((i64_lt _ _).mp ((lc_gt _ _).mp q)))]
/-- .. with the bounds written out as longs -/
theorem wi_m' (σ : SS) (x : Int32) {A B : Int64} (a b : Int32) (ha : A = a.toInt64) (hb : B = b.toInt64) : f_m_X12_in σ x.toInt64 A B = some (wi x a b, σ) := by
  rw [ha, hb]; exact wi_m σ x a b
theorem isSign_c (σ : SS) (x : Int32) : f_c_X11_isSign σ x = some (wi x 0 15, σ) := by
  unfold f_c_X11_isSign; rw [wi_c, bd_s, wi_gb]
theorem isSide_c (σ : SS) (x : Int32) : f_c_X11_isSide σ x = some (wi x 0 1, σ) := by
  unfold f_c_X11_isSide; rw [wi_c, bd_s, wi_gb]
theorem isCost_c (σ : SS) (x : Int32) : f_c_X11_isCostKind σ x = some (wi x 0 2, σ) := by
  unfold f_c_X11_isCostKind; rw [wi_c, bd_s, wi_gb]
theorem isSign_m (σ : SS) (x : Int32) : f_m_X12_isSign σ x = some (wi x 0 15, σ) := by
  unfold f_m_X12_isSign; rw [wi_m' σ x 0 15 (by decide) (by decide), bd_s, wi_gb]
theorem isKind_m (σ : SS) (x : Int32) : f_m_X12_isKind σ x = some (wi x 0 1, σ) := by
  unfold f_m_X12_isKind; rw [wi_m' σ x 0 1 (by decide) (by decide), bd_s, wi_gb]
/-- in bounds from 0 to a number -/
theorem wi_nI {x : Int32} {b : Nat} (hb : b < 2 ^ 31) (h : ¬ wi x 0 (nI b) = 0) : ∃ j, j ≤ b ∧ x = nI j := by
  rcases wi_or x 0 (nI b) with q | ⟨-, h1, h2⟩
  · exact absurd q h
  · obtain ⟨j, hj, rfl⟩ := nI_of (x := x) (by rw [Int32.lt_iff_toInt_lt]; rw [Int32.le_iff_toInt_le] at h1; omega)
    exact ⟨j, (nI_leI hj hb).mp h2, rfl⟩
/-- .. to one below a count -/
theorem wi_lt {x : Int32} {b : Nat} (hb : b < 2 ^ 31) (h : ¬ wi x 0 (nI b - 1) = 0) : ∃ j, j < b ∧ x = nI j := by
  cases b with
  | zero =>
    exfalso
    rcases wi_or x 0 (nI 0 - 1) with q | ⟨-, h1, h2⟩
    · exact h q
    · have e : (nI 0 - 1 : Int32).toInt = -1 := by decide
      rw [Int32.le_iff_toInt_le] at h1 h2
      rw [e] at h2
      have e0 : (0 : Int32).toInt = 0 := by decide
      omega
  | succ b =>
    rw [nI_pred] at h
    obtain ⟨j, h1, h2⟩ := wi_nI (by omega) h
    exact ⟨j, by omega, h2⟩
theorem sign_ok {x : Int32} (h : ¬ wi x 0 15 = 0) : ∃ s, s < 16 ∧ x = nI s := by
  obtain ⟨j, h1, h2⟩ := wi_nI (b := 15) (by decide) h
  exact ⟨j, by omega, h2⟩
/-- text: a sign comes -/
def tset (t : Nat → Nat) (n s : Nat) : Nat → Nat := fun i => if i = n then s else t i
theorem tset_lt {t : Nat → Nat} {n s i : Nat} (h : i < n) : tset t n s i = t i := by unfold tset; rw [if_neg (by omega)]
theorem tset_at {t : Nat → Nat} {n s : Nat} : tset t n s n = s := by unfold tset; rw [if_pos rfl]
theorem append_c {σ : SS} {t : Nat → Nat} {n s : Nat} (h : Tc σ t n) (hn : n < 400) (hs : s < 16) : ∃ σ', f_c_X8_append σ (nI s) = some ((), σ') ∧ Tc σ' (tset t n s) (n + 1) ∧ fr [0, 1] [0, 1] σ σ' ∧ σ'.1 1 = σ.1 1 + 1 := by
  obtain ⟨h0, hn4, ht, hc⟩ := h
  refine ⟨_, by unfold f_c_X8_append; rw [h0, gd_nI hn (by decide), gd_nI hs (by decide), gd_nI hs (by decide)], ?_⟩
  refine ⟨⟨?_, by omega, fun i hi => ?_, fun s' hs' => ?_⟩, ?_, ?_⟩
  · show (σ.1 0) + 1 = _
    rw [h0]; exact nI_1 n
  · show _ ∧ upd (σ.2 0) (nI n).toNatClampNeg (nI s) i = _
    rw [nI_clamp (by omega), upd_at]
    by_cases h : i = n
    · subst h; rw [if_pos rfl, tset_at]; exact ⟨hs, rfl⟩
    · rw [if_neg h, tset_lt (by omega)]; exact ht i (by omega)
  · show upd (σ.2 1) (nI s).toNatClampNeg (σ.2 1 (nI s).toNatClampNeg + 1) s' = _
    rw [nI_clamp (by omega), upd_at]
    unfold cnt
    rw [tset_at, cnt_congr (t' := t) (fun i hi => tset_lt hi)]
    by_cases h : s' = s
    · subst h; rw [if_pos rfl, if_pos rfl, hc s' hs]; exact nI_1 _
    · rw [if_neg h, if_neg (fun q => h q.symm), hc s' hs']; rfl
  · exact (((((fr.rf σ).pA (by decide)).pI (by decide)).pA (by decide)).pI (by decide))
  · rfl
theorem sign_c {σ : SS} {t : Nat → Nat} {n : Nat} (h : Tc σ t n) (x : Int32) : ∃ r σ', f_c_X11_sign σ x = some (r, σ') ∧ ((r = -1 ∧ wi x 0 15 = 0 ∧ σ' = σ) ∨ (r = -3 ∧ ¬ wi x 0 15 = 0 ∧ n = 400 ∧ σ' = σ) ∨ (r = nI (n + 1) ∧ n < 400 ∧ ∃ s, s < 16 ∧ x = nI s ∧ ¬ wi x 0 15 = 0 ∧ Tc σ' (tset t n s) (n + 1) ∧ fr [0, 1] [0, 1] σ σ' ∧ σ'.1 1 = σ.1 1 + 1)) := by
  unfold f_c_X11_sign
  rw [isSign_c, bd_s]
  by_cases hw : wi x 0 15 = 0
  · exact ⟨-1, σ, by rw [if_pos hw], Or.inl ⟨rfl, hw, rfl⟩⟩
  · rw [if_neg hw]
    obtain ⟨s, hs, rfl⟩ := sign_ok hw
    by_cases hn : n < 400
    · rw [h.1, i_400, if_pos (nI_lt hn (by decide))]
      obtain ⟨σ', e, h1, h2, h3⟩ := append_c h hn hs
      rw [e, bd_s]
      exact ⟨_, σ', rfl, Or.inr (Or.inr ⟨h1.1, hn, s, hs, rfl, hw, h1, h2, h3⟩)⟩
    · have : n = 400 := by have := h.2.1; omega
      subst this
      rw [h.1, i_400, if_neg (nI_nlt (Nat.le_refl _) (by decide))]
      exact ⟨-3, σ, rfl, Or.inr (Or.inl ⟨rfl, hw, rfl, rfl⟩)⟩
theorem sign_m {τ : SS} {t : Nat → Nat} {n : Nat} (h : Tm τ t n) (x : Int32) : ∃ r τ', f_m_X12_sign τ x = some (r, τ') ∧ fr [0, 1] [0] τ τ' ∧ ((r = -1 ∧ wi x 0 15 = 0 ∧ Tm τ' t n) ∨ (r = -3 ∧ ¬ wi x 0 15 = 0 ∧ n = 400 ∧ Tm τ' t n) ∨ (r = nI (n + 1) ∧ n < 400 ∧ ∃ s, s < 16 ∧ x = nI s ∧ ¬ wi x 0 15 = 0 ∧ Tm τ' (tset t n s) (n + 1))) := by
  unfold f_m_X12_sign
  rw [isSign_m, bd_s]
  have f1 : fr [0, 1] [0] τ (putI τ 0 0) := (fr.rf τ).pI (by decide)
  have f1' : fr [0] [] τ (putI τ 0 0) := (fr.rf τ).pI (by decide)
  have h1 : Tm (putI τ 0 0) t n := h.fr f1' (by decide) (by decide)
  by_cases hw : wi x 0 15 = 0
  · exact ⟨-1, _, by rw [if_pos hw], f1, Or.inl ⟨rfl, hw, h1⟩⟩
  · rw [if_neg hw]
    obtain ⟨s, hs, rfl⟩ := sign_ok hw
    by_cases hn : n < 400
    · rw [if_neg (by rw [h1.1, i_400, nI_eq (by omega) (by decide)]; omega), h1.1, gd_nI hn (by decide)]
      refine ⟨_, _, rfl, ?_, Or.inr (Or.inr ⟨?_, hn, s, hs, rfl, hw, ?_, by omega, fun i hi => ?_⟩)⟩
      · exact (f1.pA (by decide)).pI (by decide)
      · show (putI τ 0 0).1 1 + 1 = _
        rw [h1.1]; exact nI_1 n
      · show (putI τ 0 0).1 1 + 1 = _
        rw [h1.1]; exact nI_1 n
      · show _ ∧ upd ((putI τ 0 0).2 0) (nI n).toNatClampNeg (nI s) i = _
        rw [nI_clamp (by omega), upd_at]
        by_cases q : i = n
        · subst q; rw [if_pos rfl, tset_at]; exact ⟨hs, rfl⟩
        · rw [if_neg q, tset_lt (by omega)]; exact h1.2.2 i (by omega)
    · have : n = 400 := by have := h.2.1; omega
      subst this
      rw [if_pos (by rw [h1.1, i_400])]
      exact ⟨-3, _, rfl, f1, Or.inr (Or.inl ⟨rfl, hw, rfl, h1⟩)⟩
/-- Arrays.fill over the totals, over 'before', over the heads -/
theorem fill_3 (σ : SS) (x : Int32) : ∃ σ', f_c_J7_fill_53178_3 σ x = some ((), σ') ∧ fr [] [1] σ σ' ∧ ∀ i, i < 16 → σ'.2 1 i = x := by
  unfold f_c_J7_fill_53178_3
  refine L3_rule (I := fun k σ1 x1 x2 x3 => ∃ i, i + k = 16 ∧ x1 = x ∧ x2 = nI i ∧ x3 = nI 16 ∧ fr [] [1] σ σ1 ∧ ∀ j, j < i → σ1.2 1 j = x) (O := fun o => ∃ σ', o = some ((), σ') ∧ fr [] [1] σ σ' ∧ ∀ i, i < 16 → σ'.2 1 i = x) ?_ FUEL 16 σ x 0 16 (by decide) ⟨0, rfl, rfl, by decide, by decide, fr.rf σ, fun j hj => absurd hj (Nat.not_lt_zero j)⟩
  rintro g k σ1 x1 x2 x3 ⟨i, hi, rfl, rfl, rfl, hf, hv⟩ ih
  unfold f_c_J7_fill_53178_3_5
  by_cases h : i < 16
  · rw [if_neg (fun q => nI_ge h (by decide) q), gd_nI h (by decide), nI_1, nI_clamp (by omega)]
    refine ih (k - 1) _ _ _ _ (by omega) ⟨i + 1, by omega, rfl, rfl, rfl, hf.pA (by decide), fun j hj => ?_⟩
    show upd (σ1.2 1) i x1 j = x1
    rw [upd_at]
    by_cases q : j = i
    · rw [if_pos q]
    · rw [if_neg q]; exact hv j (by omega)
  · have : i = 16 := by omega
    subst this
    rw [if_pos (nI_le (Nat.le_refl _) (by decide))]
    exact ⟨σ1, rfl, hf, hv⟩
theorem fill_15 (σ : SS) (x : Int32) : ∃ σ', f_c_J7_fill_53178_15 σ x = some ((), σ') ∧ fr [] [9] σ σ' ∧ ∀ i, i < 16 → σ'.2 9 i = x := by
  unfold f_c_J7_fill_53178_15
  refine L3_rule (I := fun k σ1 x1 x2 x3 => ∃ i, i + k = 16 ∧ x1 = x ∧ x2 = nI i ∧ x3 = nI 16 ∧ fr [] [9] σ σ1 ∧ ∀ j, j < i → σ1.2 9 j = x) (O := fun o => ∃ σ', o = some ((), σ') ∧ fr [] [9] σ σ' ∧ ∀ i, i < 16 → σ'.2 9 i = x) ?_ FUEL 16 σ x 0 16 (by decide) ⟨0, rfl, rfl, by decide, by decide, fr.rf σ, fun j hj => absurd hj (Nat.not_lt_zero j)⟩
  rintro g k σ1 x1 x2 x3 ⟨i, hi, rfl, rfl, rfl, hf, hv⟩ ih
  unfold f_c_J7_fill_53178_15_5
  by_cases h : i < 16
  · rw [if_neg (fun q => nI_ge h (by decide) q), gd_nI h (by decide), nI_1, nI_clamp (by omega)]
    refine ih (k - 1) _ _ _ _ (by omega) ⟨i + 1, by omega, rfl, rfl, rfl, hf.pA (by decide), fun j hj => ?_⟩
    show upd (σ1.2 9) i x1 j = x1
    rw [upd_at]
    by_cases q : j = i
    · rw [if_pos q]
    · rw [if_neg q]; exact hv j (by omega)
  · have : i = 16 := by omega
    subst this
    rw [if_pos (nI_le (Nat.le_refl _) (by decide))]
    exact ⟨σ1, rfl, hf, hv⟩
theorem fill_30 (σ : SS) (x : Int32) : ∃ σ', f_c_J7_fill_53178_30 σ x = some ((), σ') ∧ fr [] [19] σ σ' ∧ ∀ i, i < 216 → σ'.2 19 i = x := by
  unfold f_c_J7_fill_53178_30
  refine L3_rule (I := fun k σ1 x1 x2 x3 => ∃ i, i + k = 216 ∧ x1 = x ∧ x2 = nI i ∧ x3 = nI 216 ∧ fr [] [19] σ σ1 ∧ ∀ j, j < i → σ1.2 19 j = x) (O := fun o => ∃ σ', o = some ((), σ') ∧ fr [] [19] σ σ' ∧ ∀ i, i < 216 → σ'.2 19 i = x) ?_ FUEL 216 σ x 0 216 (by decide) ⟨0, rfl, rfl, by decide, by decide, fr.rf σ, fun j hj => absurd hj (Nat.not_lt_zero j)⟩
  rintro g k σ1 x1 x2 x3 ⟨i, hi, rfl, rfl, rfl, hf, hv⟩ ih
  unfold f_c_J7_fill_53178_30_5
  by_cases h : i < 216
  · rw [if_neg (fun q => nI_ge h (by decide) q), gd_nI h (by decide), nI_1, nI_clamp (by omega)]
    refine ih (k - 1) _ _ _ _ (by omega) ⟨i + 1, by omega, rfl, rfl, rfl, hf.pA (by decide), fun j hj => ?_⟩
    show upd (σ1.2 19) i x1 j = x1
    rw [upd_at]
    by_cases q : j = i
    · rw [if_pos q]
    · rw [if_neg q]; exact hv j (by omega)
  · have : i = 216 := by omega
    subst this
    rw [if_pos (nI_le (Nat.le_refl _) (by decide))]
    exact ⟨σ1, rfl, hf, hv⟩
theorem wipe_c {σ : SS} {t : Nat → Nat} {n : Nat} (h : Tc σ t n) : ∃ σ', f_c_X11_wipe σ = some (nI n, σ') ∧ Tc σ' t 0 ∧ fr [0, 1] [1] σ σ' ∧ σ'.1 1 = σ.1 1 + 1 := by
  unfold f_c_X11_wipe f_c_X8_clear
  obtain ⟨σ', e, f, hv⟩ := fill_3 (putI σ 0 0) 0
  rw [e, bd_s, bd_s, h.1]
  have f0 : fr [0, 1] [1] σ σ' := fr.tr ((fr.rf σ).pI (by decide)) (f.up (by decide) (by decide))
  refine ⟨_, rfl, ⟨?_, by omega, fun i hi => absurd hi (Nat.not_lt_zero i), fun s hs => ?_⟩, f0.pI (by decide), ?_⟩
  · show σ'.1 0 = _
    rw [f.1 0 (by decide)]; exact i_0
  · show σ'.2 1 s = _
    rw [hv s hs]; exact i_0
  · show σ'.1 1 + 1 = _
    rw [f.1 1 (by decide)]; rfl
theorem wipe_m {τ : SS} {t : Nat → Nat} {n : Nat} (h : Tm τ t n) : ∃ τ', f_m_X12_wipe τ = some (nI n, τ') ∧ Tm τ' t 0 ∧ fr [0, 1] [] τ τ' := by
  unfold f_m_X12_wipe
  refine ⟨_, by rw [show (putI τ 0 0).1 1 = nI n from h.1], ⟨?_, by omega, fun i hi => absurd hi (Nat.not_lt_zero i)⟩, ?_⟩
  · exact i_0
  · exact ((fr.rf τ).pI (by decide)).pI (by decide)
theorem length_c {σ : SS} {t : Nat → Nat} {n : Nat} (h : Tc σ t n) : f_c_X11_length σ = some (nI n, σ) := by
  unfold f_c_X11_length; rw [h.1]
theorem length_m {τ : SS} {t : Nat → Nat} {n : Nat} (h : Tm τ t n) : f_m_X12_length τ = some (nI n, putI τ 0 0) := by
  unfold f_m_X12_length; rw [show (putI τ 0 0).1 1 = nI n from h.1]
