/-! weights and shares -/
def wsum (w : Nat → Nat) : Nat → Nat
  | 0 => 0
  | n + 1 => wsum w n + w n
theorem wsum_le {w : Nat → Nat} {n B : Nat} (h : ∀ i, i < n → w i ≤ B) : wsum w n ≤ n * B := by
  induction n with
  | zero => exact Nat.zero_le _
  | succ n ih =>
    unfold wsum
    have h1 := ih (fun i hi => h i (by omega))
    have h2 := h n (by omega)
    rw [Nat.succ_mul]; omega
theorem wsum_ge {w : Nat → Nat} {n i : Nat} (h : i < n) : w i ≤ wsum w n := by
  induction n with
  | zero => exact absurd h (Nat.not_lt_zero i)
  | succ n ih =>
    unfold wsum
    by_cases q : i = n
    · subst q; omega
    · have := ih (by omega); omega
theorem wsum_set {w : Nat → Nat} {n s v : Nat} (h : s < n) : wsum (tset w s v) n + w s = wsum w n + v := by
  induction n with
  | zero => exact absurd h (Nat.not_lt_zero s)
  | succ n ih =>
    unfold wsum
    by_cases q : s = n
    · subst q
      rw [tset_at]
      have : ∀ m, m ≤ s → wsum (tset w s v) m = wsum w m := by
        intro m
        induction m with
        | zero => intro _; rfl
        | succ m ihm => intro hm; unfold wsum; rw [ihm (by omega), tset_lt (by omega)]
      rw [this s (Nat.le_refl s)]; omega
    · have h2 : tset w s v n = w n := by unfold tset; rw [if_neg (fun e => q e.symm)]
      rw [h2]
      have := ih (by omega); omega
def Wt (σ τ : SS) (w : Nat → Nat) : Prop := (∀ s, s < 16 → w s ≤ 1000 ∧ σ.2 2 s = nI (w s) ∧ τ.2 1 s = nI (w s)) ∧ σ.1 2 = nI (wsum w 16)
theorem Wt.fr {I A I' A' : List Nat} {σ σ' τ τ' : SS} {w : Nat → Nat} (h : Wt σ τ w) (f : fr I A σ σ') (f' : fr I' A' τ τ') (h0 : 2 ∉ I) (h1 : 2 ∉ A) (h2 : 1 ∉ A') : Wt σ' τ' w := ⟨fun s hs => by rw [f.2 2 h1, f'.2 1 h2]; exact h.1 s hs, (f.1 2 h0).trans h.2⟩
theorem Wt.bd {σ τ : SS} {w : Nat → Nat} (h : Wt σ τ w) : wsum w 16 ≤ 16000 := wsum_le (fun i hi => (h.1 i hi).1)
theorem nI_swap {a b c : Nat} (h : c ≤ a) : nI a + (nI b - nI c) = nI (a - c + b) := by
  have e : nI a = nI (a - c) + nI c := by rw [nI_add]; congr 1; omega
  rw [e, ← nI_add]
  grind
theorem replace_c {σ τ : SS} {w : Nat → Nat} {s v : Nat} (h : Wt σ τ w) (hs : s < 16) : ∃ σ', f_c_X9_replace σ (nI s) (nI v) = some (nI (w s), σ') ∧ fr [2] [2] σ σ' ∧ (∀ j, j < 16 → σ'.2 2 j = nI (tset w s v j)) ∧ σ'.1 2 = nI (wsum (tset w s v) 16) := by
  refine ⟨_, by unfold f_c_X9_replace; rw [gd_nI hs (by decide), gd_nI hs (by decide), nI_clamp (by omega), (h.1 s hs).2.1], ?_, fun j hj => ?_, ?_⟩
  · exact ((fr.rf σ).pA (by decide)).pI (by decide)
  · show upd (σ.2 2) s (nI v) j = _
    rw [upd_at]; unfold tset
    by_cases q : j = s
    · rw [if_pos q, if_pos q]
    · rw [if_neg q, if_neg q]; exact (h.1 j hj).2.1
  · show σ.1 2 + (nI v - nI (w s)) = _
    rw [h.2, nI_swap (wsum_ge hs)]
    congr 1
    have := wsum_set (w := w) (v := v) hs
    have := wsum_ge (w := w) hs
    omega
theorem weight_both {σ τ : SS} {w : Nat → Nat} (h : Wt σ τ w) (x y : Int32) : ∃ r σ' τ' w', f_c_X11_weight σ x y = some (r, σ') ∧ f_m_X12_weight τ x y = some (r, τ') ∧ Wt σ' τ' w' ∧ fr [2] [2] σ σ' ∧ fr [0] [1] τ τ' := by
  unfold f_c_X11_weight f_m_X12_weight
  rw [isSign_c, isSign_m, bd_s, bd_s]
  have f1 : fr [0] [1] τ (putI τ 0 0) := (fr.rf τ).pI (by decide)
  have f1' : fr [0] [] τ (putI τ 0 0) := (fr.rf τ).pI (by decide)
  have h1 : Wt σ (putI τ 0 0) w := h.fr (fr.rf (I := []) (A := []) σ) f1' (by decide) (by decide) (by decide)
  by_cases hw : wi x 0 15 = 0
  · exact ⟨-1, σ, _, w, by rw [if_pos hw], by rw [if_pos hw], h1, fr.rf σ, f1⟩
  · rw [if_neg hw, if_neg hw, wi_c, wi_m' _ y 0 1000 (by decide) (by decide), bd_s, bd_s]
    obtain ⟨s, hs, rfl⟩ := sign_ok hw
    by_cases hv : wi y 0 1000 = 0
    · exact ⟨-1, σ, _, w, by rw [if_pos hv], by rw [if_pos hv], h1, fr.rf σ, f1⟩
    · rw [if_neg hv, if_neg hv]
      obtain ⟨v, hv', rfl⟩ := wi_nI (b := 1000) (by decide) hv
      obtain ⟨σ', e, f, hj, hs2⟩ := replace_c (v := v) h hs
      rw [e, bd_s, gd_nI hs (by decide), gd_nI hs (by decide), nI_clamp (by omega), (h1.1 s hs).2.2]
      refine ⟨_, σ', _, tset w s v, rfl, rfl, ⟨fun j hj' => ⟨?_, hj j hj', ?_⟩, hs2⟩, f, f1.pA (by decide)⟩
      · unfold tset
        by_cases q : j = s
        · rw [if_pos q]; exact hv'
        · rw [if_neg q]; exact (h.1 j hj').1
      · show upd ((putI τ 0 0).2 1) s (nI v) j = _
        rw [upd_at]; unfold tset
        by_cases q : j = s
        · rw [if_pos q, if_pos q]
        · rw [if_neg q, if_neg q]; exact (h1.1 j hj').2.2
theorem sum_m {τ : SS} {w : Nat → Nat} (h : ∀ s, s < 16 → τ.2 1 s = nI (w s)) : f_m_X12_sumOfWeights τ = some (nI (wsum w 16), τ) := by
  unfold f_m_X12_sumOfWeights
  refine L2_rule (I := fun k τ1 x1 x2 => ∃ i, i + k = 16 ∧ x1 = nI (wsum w i) ∧ x2 = nI i ∧ τ1 = τ) (O := fun o => o = some (nI (wsum w 16), τ)) ?_ FUEL 16 τ 0 0 (by decide) ⟨0, rfl, i_0, i_0, rfl⟩
  rintro g k τ1 x1 x2 ⟨i, hi, rfl, rfl, rfl⟩ ih
  unfold f_m_X12_sumOfWeights_4
  by_cases q : i < 16
  · rw [i_16, if_neg (fun z => nI_ge q (by decide) z), gd_nI q (by decide), nI_1, nI_clamp (by omega), h i q, nI_add]
    exact ih (k - 1) _ _ _ (by omega) ⟨i + 1, by omega, rfl, rfl, rfl⟩
  · have : i = 16 := by omega
    subst this
    rw [i_16, if_pos (nI_le (Nat.le_refl _) (by decide))]
/-- the share: the class throws (no such sign; the sum is 0), the reference says so; or they answer alike -/
theorem share_both {σ τ : SS} {w : Nat → Nat} (h : Wt σ τ w) (x : Int32) : ∃ b τ', f_m_X12_share τ x = some (b, τ') ∧ fr [0] [] τ τ' ∧
    ((wi x 0 15 = 0 ∧ τ'.1 0 = 2) ∨ (¬ wi x 0 15 = 0 ∧ σ.1 2 = 0 ∧ τ'.1 0 = 1) ∨ (¬ wi x 0 15 = 0 ∧ ¬ σ.1 2 = 0 ∧ τ'.1 0 = 0 ∧ f_c_X11_share σ x = some (b, σ))) := by
  unfold f_m_X12_share
  rw [sum_m (fun s hs => (h.1 s hs).2.2), bd_s, isSign_m, bd_s]
  have hb := h.bd
  by_cases hw : wi x 0 15 = 0
  · rw [if_pos hw]
    unfold f_m_X12_share_26
    rw [if_neg (show ¬ (putI τ 0 2).1 0 = 0 by show ¬ (2 : Int32) = 0; decide)]
    exact ⟨_, _, rfl, (fr.rf τ).pI (by decide), Or.inl ⟨hw, rfl⟩⟩
  · rw [if_neg hw]
    obtain ⟨s, hs, rfl⟩ := sign_ok hw
    by_cases hz : nI (wsum w 16) = 0
    · rw [if_pos hz]
      unfold f_m_X12_share_26
      rw [if_neg (show ¬ (putI τ 0 1).1 0 = 0 by show ¬ (1 : Int32) = 0; decide)]
      exact ⟨_, _, rfl, (fr.rf τ).pI (by decide), Or.inr (Or.inl ⟨hw, h.2.trans hz, rfl⟩)⟩
    · rw [if_neg hz]
      unfold f_m_X12_share_26
      have hz64 : ¬ (nI (wsum w 16)).toInt64 = 0 := fun q => hz (by
        rw [← Int64.toInt_inj, Int32.toInt_toInt64] at q
        rw [← Int32.toInt_inj]; exact q)
      rw [if_pos (show (putI τ 0 0).1 0 = 0 from rfl), gd_nI hs (by decide), nI_clamp (by omega)]
      refine ⟨_, _, by unfold gZ; rw [if_neg hz64], (fr.rf τ).pI (by decide), Or.inr (Or.inr ⟨hw, by rw [h.2]; exact hz, rfl, ?_⟩)⟩
      unfold f_c_X11_share
      rw [isSign_c, bd_s, if_neg hw, h.2, if_neg hz, gd_nI hs (by decide), nI_clamp (by omega)]
      unfold gZ
      rw [if_neg hz64, (h.1 s hs).2.1, show (putI τ 0 0).2 1 s = nI (w s) from (h.1 s hs).2.2, Int64.mul_comm]
