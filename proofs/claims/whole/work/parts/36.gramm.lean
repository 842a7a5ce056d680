/-! the grammar: the reference -/
def Rw (a : Nat → Int32) (r : Nat → Nat) (R : Nat) : Prop := R ≤ 400 ∧ ∀ i, i < R → a i = nI (r i) ∧ r i < 2 ^ 16
theorem countPair_m {τ : SS} {r : Nat → Nat} {R f s : Nat} (h7 : τ.1 7 = nI R) (hr : Rw (τ.2 11) r R) (hf : f < 2 ^ 16) (hs : s < 2 ^ 16) : f_m_X12_countPair τ (nI f) (nI s) = some (nI (cj r R f s 0), τ) := by
  have hR := hr.1
  unfold f_m_X12_countPair
  refine L4_rule (I := fun k τ1 x1 x2 x3 x4 => ∃ p c, p + k = R ∧ x1 = nI f ∧ x2 = nI s ∧ x3 = nI c ∧ x4 = nI p ∧ τ1 = τ ∧ c + cj r R f s p = cj r R f s 0) (O := fun o => o = some (nI (cj r R f s 0), τ)) ?_ FUEL R τ _ _ _ _ (by unfold FUEL; omega) ⟨0, 0, by omega, rfl, rfl, i_0, i_0, rfl, by omega⟩
  rintro g k τ1 x1 x2 x3 x4 ⟨p, c, hp, rfl, rfl, rfl, rfl, rfl, hc⟩ ih
  have no : ¬ (r p = f ∧ r (p + 1) = s) → p + 1 < R → f_m_X12_countPair_44 g τ1 (nI f) (nI s) (nI c) (nI p) = some (nI (cj r R f s 0), τ1) := by
    intro hm hp1
    unfold f_m_X12_countPair_44 f_m_X12_countPair_45 f_m_X12_countPair_58
    rw [if_pos rfl, if_pos rfl, nI_1, i_0, nI_add]
    refine ih (k - 1) _ _ _ _ _ (by omega) ⟨p + 1, c, by omega, rfl, rfl, rfl, rfl, rfl, ?_⟩
    rw [cj_s r R f s p, if_pos hp1, if_neg hm] at hc
    exact hc
  unfold f_m_X12_countPair_5
  rw [h7, nI_1]
  by_cases z : p + 1 < R
  · have a := hr.2 p (by omega)
    have b := hr.2 (p + 1) z
    rw [if_neg (fun y => nI_ge z (by omega) y), gd_nI (show p < 400 by omega) (by decide), nI_clamp (by omega), a.1]
    by_cases e : r p = f
    · rw [if_pos (by rw [e]), gd_nI (show p + 1 < 400 by omega) (by decide), nI_clamp (by omega), b.1]
      by_cases e2 : r (p + 1) = s
      · rw [if_pos (by rw [e2])]
        unfold f_m_X12_countPair_45 f_m_X12_countPair_58
        rw [if_neg (by decide), if_neg (by decide), nI_1, i_2, nI_add]
        refine ih (k - 2) _ _ _ _ _ (by omega) ⟨p + 2, c + 1, by omega, rfl, rfl, rfl, rfl, rfl, ?_⟩
        rw [cj_s r R f s p, if_pos z, if_pos ⟨e, e2⟩] at hc
        omega
      · rw [if_neg (fun y => e2 ((nI_eq (by omega) (by omega)).mp y))]
        exact no (fun w => e2 w.2) z
    · rw [if_neg (fun y => e ((nI_eq (by omega) (by omega)).mp y))]
      exact no (fun w => e w.1) z
  · rw [if_pos (nI_le (by omega) (by omega))]
    rw [cj_s r R f s p, if_neg z] at hc
    rw [← hc, Nat.add_zero]
/-- the best place so far, and how often its pair stands -/
def Bst (r : Nat → Nat) (R p : Nat) (best most : Int32) : Prop :=
  (best = -2 ∧ most = 1 ∧ ∀ q, q < p → q + 1 < R → cj r R (r q) (r (q + 1)) 0 < 2) ∨
  ∃ b, b < p ∧ b + 1 < R ∧ best = nI b ∧ most = nI (cj r R (r b) (r (b + 1)) 0) ∧ 2 ≤ cj r R (r b) (r (b + 1)) 0 ∧ ∀ q, q < p → q + 1 < R → cj r R (r q) (r (q + 1)) 0 < cj r R (r b) (r (b + 1)) 0 ∨ (cj r R (r q) (r (q + 1)) 0 = cj r R (r b) (r (b + 1)) 0 ∧ (r b < r q ∨ (r b = r q ∧ r (b + 1) ≤ r (q + 1))))
theorem bestPair_m {τ : SS} {r : Nat → Nat} {R : Nat} (h7 : τ.1 7 = nI R) (hr : Rw (τ.2 11) r R) :
    ∃ best : Int32, f_m_X12_bestPair τ = some (best, τ) ∧ ((best = -2 ∧ ¬ ∃ f s, IsBP r R f s) ∨ ∃ b, b + 1 < R ∧ best = nI b ∧ IsBP r R (r b) (r (b + 1))) := by
  have hR := hr.1
  unfold f_m_X12_bestPair
  refine L3_rule (I := fun k τ1 x1 x2 x3 => ∃ p, p + k = R ∧ x3 = nI p ∧ τ1 = τ ∧ Bst r R p x1 x2) (O := fun o => ∃ best : Int32, o = some (best, τ) ∧ ((best = -2 ∧ ¬ ∃ f s, IsBP r R f s) ∨ ∃ b, b + 1 < R ∧ best = nI b ∧ IsBP r R (r b) (r (b + 1)))) ?_ FUEL R τ _ _ _ (by unfold FUEL; omega) ⟨0, by omega, i_0, rfl, Or.inl ⟨rfl, rfl, fun q hq => absurd hq (Nat.not_lt_zero q)⟩⟩
  rintro g k τ1 x1 x2 x3 ⟨p, hp, rfl, rfl, hB⟩ ih
  unfold f_m_X12_bestPair_7
  rw [h7, nI_1]
  by_cases z : p + 1 < R
  · have ap := hr.2 p (by omega)
    have bp := hr.2 (p + 1) z
    rw [if_neg (fun y => nI_ge z (by omega) y)]
    -- keeping, or taking this place
    have keep : (cj r R (r p) (r (p + 1)) 0 < 2 ∨ ∃ b, b < p ∧ b + 1 < R ∧ x1 = nI b ∧ (cj r R (r p) (r (p + 1)) 0 < cj r R (r b) (r (b + 1)) 0 ∨ (cj r R (r p) (r (p + 1)) 0 = cj r R (r b) (r (b + 1)) 0 ∧ (r b < r p ∨ (r b = r p ∧ r (b + 1) ≤ r (p + 1)))))) →
        ∃ best : Int32, g τ1 x1 x2 (nI (p + 1)) = some (best, τ1) ∧ ((best = -2 ∧ ¬ ∃ f s, IsBP r R f s) ∨ ∃ b, b + 1 < R ∧ best = nI b ∧ IsBP r R (r b) (r (b + 1))) := by
      intro hc
      refine ih (k - 1) _ _ _ _ (by omega) ⟨p + 1, by omega, rfl, rfl, ?_⟩
      rcases hB with ⟨b1, b2, b3⟩ | ⟨b, c1, c2, c3, c4, c5, c6⟩
      · refine Or.inl ⟨b1, b2, fun q hq hq1 => ?_⟩
        by_cases w : q = p
        · subst w
          rcases hc with hc | ⟨b, hb1, hb2, hb, -⟩
          · exact hc
          · rw [b1] at hb; exact absurd hb.symm (nI_m2 (by omega))
        · exact b3 q (by omega) hq1
      · refine Or.inr ⟨b, by omega, c2, c3, c4, c5, fun q hq hq1 => ?_⟩
        by_cases w : q = p
        · subst w
          rcases hc with hc | ⟨b', hb1, hb2, hb, hb3⟩
          · exact Or.inl (by omega)
          · rw [c3] at hb
            have e : b = b' := (nI_eq (by omega) (by omega)).mp hb
            subst e
            exact hb3
        · exact c6 q (by omega) hq1
    have take : 2 ≤ cj r R (r p) (r (p + 1)) 0 → (x1 = -2 ∨ ∃ b, b < p ∧ b + 1 < R ∧ x1 = nI b ∧ (cj r R (r b) (r (b + 1)) 0 < cj r R (r p) (r (p + 1)) 0 ∨ (cj r R (r b) (r (b + 1)) 0 = cj r R (r p) (r (p + 1)) 0 ∧ (r p < r b ∨ (r p = r b ∧ r (p + 1) < r (b + 1)))))) →
        ∃ best : Int32, f_m_X12_bestPair_191 g τ1 (nI p) (nI (cj r R (r p) (r (p + 1)) 0)) = some (best, τ1) ∧ ((best = -2 ∧ ¬ ∃ f s, IsBP r R f s) ∨ ∃ b, b + 1 < R ∧ best = nI b ∧ IsBP r R (r b) (r (b + 1))) := by
      intro h2 hc
      unfold f_m_X12_bestPair_191
      rw [nI_1]
      refine ih (k - 1) _ _ _ _ (by omega) ⟨p + 1, by omega, rfl, rfl, Or.inr ⟨p, by omega, z, rfl, rfl, h2, fun q hq hq1 => ?_⟩⟩
      by_cases w : q = p
      · subst w
        exact Or.inr ⟨rfl, Or.inr ⟨rfl, Nat.le_refl _⟩⟩
      · rcases hB with ⟨b1, b2, b3⟩ | ⟨b, c1, c2, c3, c4, c5, c6⟩
        · have := b3 q (by omega) hq1
          exact Or.inl (by omega)
        · rcases hc with hc | ⟨b', hb1, hb2, hb, hb3⟩
          · rw [c3] at hc; exact absurd hc (nI_m2 (by omega))
          · rw [c3] at hb
            have e : b = b' := (nI_eq (by omega) (by omega)).mp hb
            subst e
            have := c6 q (by omega) hq1
            omega
    have hcp := cj_le r R (r p) (r (p + 1)) (R - 0) 0 rfl
    -- behind the count
    have s110 : ∀ c : Nat, ((c = cj r R (r p) (r (p + 1)) 0) ∨ (c = 0 ∧ ∃ q, q < p ∧ r q = r p ∧ r (q + 1) = r (p + 1))) → ∃ best : Int32, f_m_X12_bestPair_110 g τ1 x1 x2 (nI p) (nI c) = some (best, τ1) ∧ ((best = -2 ∧ ¬ ∃ f s, IsBP r R f s) ∨ ∃ b, b + 1 < R ∧ best = nI b ∧ IsBP r R (r b) (r (b + 1))) := by
      intro c hc
      have hcR : c ≤ R := by omega
      unfold f_m_X12_bestPair_110 f_m_X12_bestPair_177 f_m_X12_bestPair_173 f_m_X12_bestPair_178
      rw [nI_1]
      rcases hc with hc | ⟨hc, q, q1, q2, q3⟩
      · subst hc
        rcases hB with ⟨b1, b2, b3⟩ | ⟨b, c1, c2, c3, c4, c5, c6⟩
        · rw [if_pos b1, b2, i_1]
          by_cases w : 1 < cj r R (r p) (r (p + 1)) 0
          · rw [if_pos (nI_lt w (by omega))]
            exact take w (Or.inl b1)
          · rw [if_neg (nI_nlt (by omega) (by omega)), if_pos rfl, ← i_1, ← b2]
            exact keep (Or.inl (by omega))
        · have hcb := cj_le r R (r b) (r (b + 1)) (R - 0) 0 rfl
          have ab := hr.2 b (by omega)
          have bb := hr.2 (b + 1) c2
          rw [if_neg (by rw [c3]; exact nI_m2 (by omega)), c4]
          have keep' := keep
          rw [c4] at keep'
          by_cases w : cj r R (r b) (r (b + 1)) 0 < cj r R (r p) (r (p + 1)) 0
          · rw [if_neg (fun y => by have := (nI_eq (by omega) (by omega)).mp y; omega), if_pos (nI_lt w (by omega))]
            exact take (by omega) (Or.inr ⟨b, c1, c2, c3, Or.inl w⟩)
          · by_cases we : cj r R (r p) (r (p + 1)) 0 = cj r R (r b) (r (b + 1)) 0
            · have hnl : ¬ nI (cj r R (r b) (r (b + 1)) 0) < nI (cj r R (r p) (r (p + 1)) 0) := nI_nlt (by omega) (by omega)
              rw [if_pos (by rw [we]), c3, nI_1, gd_nI (show p < 400 by omega) (by decide), gd_nI (show b < 400 by omega) (by decide), gd_nI (show p < 400 by omega) (by decide), gd_nI (show b < 400 by omega) (by decide), gd_nI (show p + 1 < 400 by omega) (by decide), gd_nI (show b + 1 < 400 by omega) (by decide), nI_clamp (by omega), nI_clamp (by omega), nI_clamp (by omega), nI_clamp (by omega), ap.1, ab.1, bp.1, bb.1]
              have takeL : (r p < r b ∨ (r p = r b ∧ r (p + 1) < r (b + 1))) → ∃ best : Int32, f_m_X12_bestPair_191 g τ1 (nI p) (nI (cj r R (r p) (r (p + 1)) 0)) = some (best, τ1) ∧ ((best = -2 ∧ ¬ ∃ f s, IsBP r R f s) ∨ ∃ b, b + 1 < R ∧ best = nI b ∧ IsBP r R (r b) (r (b + 1))) := fun hl => take (by omega) (Or.inr ⟨b, c1, c2, c3, Or.inr ⟨we.symm, hl⟩⟩)
              have keepL : (r b < r p ∨ (r b = r p ∧ r (b + 1) ≤ r (p + 1))) → ∃ best : Int32, g τ1 (nI b) (nI (cj r R (r b) (r (b + 1)) 0)) (nI (p + 1)) = some (best, τ1) ∧ ((best = -2 ∧ ¬ ∃ f s, IsBP r R f s) ∨ ∃ b, b + 1 < R ∧ best = nI b ∧ IsBP r R (r b) (r (b + 1))) := fun hl => by
                have h9 := keep' (Or.inr ⟨b, c1, c2, c3, Or.inr ⟨we, hl⟩⟩)
                rw [c3] at h9
                exact h9
              by_cases l1 : r p < r b
              · rw [if_pos (nI_lt l1 (by omega)), if_neg hnl, if_neg (by decide)]
                exact takeL (Or.inl l1)
              · rw [if_neg (nI_nlt (by omega) (by omega))]
                by_cases l2 : r p = r b
                · rw [if_pos (by rw [l2])]
                  by_cases l3 : r (p + 1) < r (b + 1)
                  · rw [if_neg (fun y => by have := (nI_leI (by omega) (by omega)).mp y; omega), if_neg hnl, if_neg (by decide)]
                    exact takeL (Or.inr ⟨l2, l3⟩)
                  · rw [if_pos (nI_le (by omega) (by omega)), if_neg hnl, if_pos rfl]
                    exact keepL (Or.inr ⟨l2.symm, by omega⟩)
                · rw [if_neg (fun y => l2 ((nI_eq (by omega) (by omega)).mp y)), if_neg hnl, if_pos rfl]
                  exact keepL (Or.inl (by omega))
            · rw [if_neg (fun y => we ((nI_eq (by omega) (by omega)).mp y)), if_neg (nI_nlt (by omega) (by omega)), if_pos rfl]
              exact keep' (Or.inr ⟨b, c1, c2, c3, Or.inl (by omega)⟩)
      · subst hc
        have hcq : cj r R (r q) (r (q + 1)) 0 = cj r R (r p) (r (p + 1)) 0 := by rw [q2, q3]
        rcases hB with ⟨b1, b2, b3⟩ | ⟨b, c1, c2, c3, c4, c5, c6⟩
        · rw [if_pos b1, b2, i_1, if_neg (nI_nlt (by omega) (by omega)), if_pos rfl, ← i_1, ← b2]
          have := b3 q q1 (by omega)
          exact keep (Or.inl (by omega))
        · have hcb := cj_le r R (r b) (r (b + 1)) (R - 0) 0 rfl
          rw [if_neg (by rw [c3]; exact nI_m2 (by omega)), c4, if_neg (fun y => by have := (nI_eq (by omega) (by omega)).mp y; omega), if_neg (nI_nlt (by omega) (by omega)), if_pos rfl, ← c4]
          have h9 := c6 q q1 (by omega)
          rw [hcq, q2, q3] at h9
          exact keep (Or.inr ⟨b, c1, c2, c3, h9⟩)
    have s83 : ∀ x4 : Int32, ((x4 = 1 ∧ ∀ q, q < p → ¬ (r q = r p ∧ r (q + 1) = r (p + 1))) ∨ (x4 = 0 ∧ ∃ q, q < p ∧ r q = r p ∧ r (q + 1) = r (p + 1))) → ∃ best : Int32, f_m_X12_bestPair_83 g τ1 x1 x2 (nI p) x4 = some (best, τ1) ∧ ((best = -2 ∧ ¬ ∃ f s, IsBP r R f s) ∨ ∃ b, b + 1 < R ∧ best = nI b ∧ IsBP r R (r b) (r (b + 1))) := by
      intro x4 hx
      unfold f_m_X12_bestPair_83
      rcases hx with ⟨a1, -⟩ | ⟨a1, a2⟩
      · rw [if_neg (by rw [a1]; decide), nI_1, gd_nI (show p < 400 by omega) (by decide), gd_nI (show p + 1 < 400 by omega) (by decide), nI_clamp (by omega), nI_clamp (by omega), ap.1, bp.1, countPair_m h7 hr ap.2 bp.2, bd_s]
        exact s110 _ (Or.inl rfl)
      · rw [if_pos a1, i_0]
        exact s110 0 (Or.inr ⟨rfl, a2⟩)
    refine L5_rule (I := fun k2 τ2 y1 y2 y3 y4 y5 => ∃ i, i + k2 = p ∧ y1 = x1 ∧ y2 = x2 ∧ y3 = nI p ∧ y5 = nI i ∧ τ2 = τ1 ∧ ((y4 = 1 ∧ ∀ q, q < i → ¬ (r q = r p ∧ r (q + 1) = r (p + 1))) ∨ (y4 = 0 ∧ ∃ q, q < p ∧ r q = r p ∧ r (q + 1) = r (p + 1)))) (O := fun o => ∃ best : Int32, o = some (best, τ1) ∧ ((best = -2 ∧ ¬ ∃ f s, IsBP r R f s) ∨ ∃ b, b + 1 < R ∧ best = nI b ∧ IsBP r R (r b) (r (b + 1)))) ?_ FUEL p τ1 _ _ _ _ _ (by unfold FUEL; omega) ⟨0, by omega, rfl, rfl, rfl, i_0, rfl, Or.inl ⟨rfl, fun q hq => absurd hq (Nat.not_lt_zero q)⟩⟩
    rintro g2 k2 τ2 y1 y2 y3 y4 y5 ⟨i, hi, rfl, rfl, rfl, rfl, rfl, hv⟩ ih2
    unfold f_m_X12_bestPair_23 f_m_X12_bestPair_70
    by_cases q : i < p
    · rw [if_neg (fun y => nI_ge q (by omega) y)]
      rcases hv with ⟨v1, v2⟩ | ⟨v1, v2⟩
      · have ai := hr.2 i (by omega)
        have bi := hr.2 (i + 1) (by omega)
        rw [if_neg (by rw [v1]; decide), nI_1, nI_1, gd_nI (show i < 400 by omega) (by decide), gd_nI (show p < 400 by omega) (by decide), gd_nI (show i + 1 < 400 by omega) (by decide), gd_nI (show p + 1 < 400 by omega) (by decide), nI_clamp (by omega), nI_clamp (by omega), nI_clamp (by omega), nI_clamp (by omega), ai.1, ap.1, bi.1, bp.1]
        have nxt : ¬ (r i = r p ∧ r (i + 1) = r (p + 1)) → ∃ best : Int32, g2 τ2 y1 y2 (nI p) 1 (nI (i + 1)) = some (best, τ2) ∧ ((best = -2 ∧ ¬ ∃ f s, IsBP r R f s) ∨ ∃ b, b + 1 < R ∧ best = nI b ∧ IsBP r R (r b) (r (b + 1))) := fun hm =>
          ih2 (k2 - 1) _ _ _ _ _ _ (by omega) ⟨i + 1, by omega, rfl, rfl, rfl, rfl, rfl, Or.inl ⟨rfl, fun q' hq' => by
            by_cases w : q' = i
            · rw [w]; exact hm
            · exact v2 q' (by omega)⟩⟩
        by_cases e1 : r i = r p
        · rw [if_pos (by rw [e1])]
          by_cases e2 : r (i + 1) = r (p + 1)
          · rw [if_pos (by rw [e2])]
            exact ih2 (k2 - 1) _ _ _ _ _ _ (by omega) ⟨i + 1, by omega, rfl, rfl, rfl, rfl, rfl, Or.inr ⟨rfl, i, q, e1, e2⟩⟩
          · rw [if_neg (fun y => e2 ((nI_eq (by omega) (by omega)).mp y))]
            exact nxt (fun w => e2 w.2)
        · rw [if_neg (fun y => e1 ((nI_eq (by omega) (by omega)).mp y))]
          exact nxt (fun w => e1 w.1)
      · rw [if_pos v1]
        exact s83 _ (Or.inr ⟨v1, v2⟩)
    · have : i = p := by omega
      subst this
      rw [if_pos (nI_le (Nat.le_refl _) (by omega))]
      exact s83 _ hv
  · rw [if_pos (nI_le (by omega) (by omega))]
    refine ⟨x1, rfl, ?_⟩
    rcases hB with ⟨b1, b2, b3⟩ | ⟨b, c1, c2, c3, c4, c5, c6⟩
    · refine Or.inl ⟨b1, ?_⟩
      rintro ⟨f, s, hb⟩
      obtain ⟨q, -, q1, q2, q3⟩ := cj_pos (R - 0) 0 rfl (show 0 < cj r R f s 0 by have := hb.1; omega)
      have := b3 q (by omega) q1
      rw [q2, q3] at this
      have := hb.1
      omega
    · exact Or.inr ⟨b, c2, c3, c5, fun q hq => c6 q (by omega) hq⟩
/-- the reference's grammar of a text -/
def GrM (τ : SS) (t : Nat → Nat) (n K : Nat) : Prop := GN t n K ∧ τ.1 7 = nI (gR t n K) ∧ τ.1 8 = nI K ∧ (∀ i, i < gR t n K → τ.2 11 i = nI (gr t n K i)) ∧ ∀ k, k < K → τ.2 12 k = nI (gF t n K k) ∧ τ.2 13 k = nI (gS t n K k)
def Gm (τ : SS) : Prop := τ.1 9 = -1 ∨ ∃ t n K, n ≤ 400 ∧ τ.1 9 = nI n ∧ (∀ i, i < n → t i < 16 ∧ τ.2 14 i = nI (t i)) ∧ GrM τ t n K
theorem GrM.fr {I A : List Nat} {τ τ' : SS} {t : Nat → Nat} {n K : Nat} (h : GrM τ t n K) (f : fr I A τ τ') (h0 : 7 ∉ I ∧ 8 ∉ I) (h1 : 11 ∉ A ∧ 12 ∉ A ∧ 13 ∉ A) : GrM τ' t n K := by
  obtain ⟨a, b, c, d, e⟩ := h
  exact ⟨a, (f.1 7 h0.1).trans b, (f.1 8 h0.2).trans c, fun i hi => by rw [f.2 11 h1.1]; exact d i hi, fun k hk => by rw [f.2 12 h1.2.1, f.2 13 h1.2.2]; exact e k hk⟩
theorem Gm.fr {I A : List Nat} {τ τ' : SS} (h : Gm τ) (f : fr I A τ τ') (h0 : 7 ∉ I ∧ 8 ∉ I ∧ 9 ∉ I) (h1 : 11 ∉ A ∧ 12 ∉ A ∧ 13 ∉ A ∧ 14 ∉ A) : Gm τ' := by
  rcases h with h | ⟨t, n, K, a, b, c, d⟩
  · exact Or.inl ((f.1 9 h0.2.2).trans h)
  · exact Or.inr ⟨t, n, K, a, (f.1 9 h0.2.2).trans b, fun i hi => by rw [f.2 14 h1.2.2.2]; exact c i hi, d.fr f ⟨h0.1, h0.2.1⟩ ⟨h1.1, h1.2.1, h1.2.2.1⟩⟩
theorem isMade_m {τ : SS} {t : Nat → Nat} {n : Nat} (h : Tm τ t n) : ∃ b : Int32, f_m_X12_isMade τ = some (b, τ) ∧ ((b = 1 ∧ τ.1 9 = nI n ∧ ∀ p, p < n → τ.2 14 p = τ.2 0 p) ∨ b = 0) := by
  have hn := h.2.1
  have loop : ∀ x : Int32, ((x = 1 ∧ τ.1 9 = nI n) ∨ x = 0) → ∃ b : Int32, L2 f_m_X12_isMade_19 FUEL τ x 0 = some (b, τ) ∧ ((b = 1 ∧ τ.1 9 = nI n ∧ ∀ p, p < n → τ.2 14 p = τ.2 0 p) ∨ b = 0) := by
    intro x hx
    refine L2_rule (I := fun k τ1 x1 x2 => ∃ i, i + k = n ∧ x2 = nI i ∧ τ1 = τ ∧ ((x1 = 1 ∧ τ.1 9 = nI n ∧ ∀ p, p < i → τ.2 14 p = τ.2 0 p) ∨ x1 = 0)) (O := fun o => ∃ b : Int32, o = some (b, τ) ∧ ((b = 1 ∧ τ.1 9 = nI n ∧ ∀ p, p < n → τ.2 14 p = τ.2 0 p) ∨ b = 0)) ?_ FUEL n τ _ _ (by unfold FUEL; omega) ⟨0, by omega, i_0, rfl, by
      rcases hx with ⟨a, b⟩ | a
      · exact Or.inl ⟨a, b, fun p hp => absurd hp (Nat.not_lt_zero p)⟩
      · exact Or.inr a⟩
    rintro g k τ1 x1 x2 ⟨i, hi, rfl, rfl, hv⟩ ih
    unfold f_m_X12_isMade_19
    rw [h.1]
    have gbx : ∀ o : Option (Int32 × SS), gb x1 o = o := by
      intro o
      rcases hv with ⟨a, -⟩ | a
      · rw [a, gb_1]
      · rw [a, gb_0]
    by_cases q : i < n
    · rw [if_neg (fun y => nI_ge q (by omega) y)]
      rcases hv with ⟨v1, v2, v3⟩ | v1
      · rw [if_neg (by rw [v1]; decide), gd_nI (show i < 400 by omega) (by decide), gd_nI (show i < 400 by omega) (by decide), nI_clamp (by omega), nI_1]
        by_cases e : τ1.2 14 i = τ1.2 0 i
        · rw [if_pos e]
          refine ih (k - 1) _ _ _ (by omega) ⟨i + 1, by omega, rfl, rfl, Or.inl ⟨rfl, v2, fun p hp => ?_⟩⟩
          by_cases z : p = i
          · rw [z]; exact e
          · exact v3 p (by omega)
        · rw [if_neg e]
          exact ih (k - 1) _ _ _ (by omega) ⟨i + 1, by omega, rfl, rfl, Or.inr rfl⟩
      · rw [if_pos v1, gbx]
        exact ⟨x1, rfl, Or.inr v1⟩
    · have : i = n := by omega
      subst this
      rw [if_pos (nI_le (Nat.le_refl _) (by omega)), gbx]
      exact ⟨x1, rfl, hv⟩
  unfold f_m_X12_isMade
  by_cases e : τ.1 9 = τ.1 1
  · rw [if_pos e]; exact loop 1 (Or.inl ⟨rfl, e.trans h.1⟩)
  · rw [if_neg e]; exact loop 0 (Or.inr rfl)
/-- replacing a pair in THE ROW, from the left -/
theorem replace_m {τ : SS} {r : Nat → Nat} {R f s k : Nat} (h7 : τ.1 7 = nI R) (hr : Rw (τ.2 11) r R) (h8 : τ.1 8 = nI k) (hf : f < 2 ^ 16) (hs : s < 2 ^ 16) (hk : k < 2 ^ 15) (g : SS → Int32 → Option (Unit × SS)) :
    ∃ τ', L4 (f_m_X12_makeGrammar_122 g) FUEL τ (nI f) (nI s) 0 0 = bd (f_m_X12_bestPair (putI (putI τ' 7 (nI (rpl r R f s (16 + k) 0).length)) 8 (nI (k + 1)))) (fun r240 σ240 => g σ240 r240) ∧ fr [] [11] τ τ' ∧ ∀ j y, (rpl r R f s (16 + k) 0)[j]? = some y → τ'.2 11 j = nI y := by
  have hR := hr.1
  refine L4_rule (I := fun m τ1 x1 x2 x3 x4 => ∃ p W, p + m = R ∧ x1 = nI f ∧ x2 = nI s ∧ x3 = nI W.length ∧ x4 = nI p ∧ W.length ≤ p ∧ rpl r R f s (16 + k) 0 = W ++ rpl r R f s (16 + k) p ∧ fr [] [11] τ τ1 ∧ (∀ j y, W[j]? = some y → τ1.2 11 j = nI y) ∧ ∀ j, p ≤ j → j < R → τ1.2 11 j = nI (r j)) (O := fun o => ∃ τ', o = bd (f_m_X12_bestPair (putI (putI τ' 7 (nI (rpl r R f s (16 + k) 0).length)) 8 (nI (k + 1)))) (fun r240 σ240 => g σ240 r240) ∧ fr [] [11] τ τ' ∧ ∀ j y, (rpl r R f s (16 + k) 0)[j]? = some y → τ'.2 11 j = nI y) ?_ FUEL R τ _ _ _ _ (by unfold FUEL; omega) ⟨0, [], by omega, rfl, rfl, i_0, i_0, Nat.le_refl 0, rfl, fr.rf τ, fun j y hy => (by cases hy), fun j _ hj => (hr.2 j hj).1⟩
  rintro g2 m τ1 x1 x2 x3 x4 ⟨p, W, hp, rfl, rfl, rfl, rfl, hW, hsp, f1, hw, ho⟩ ih
  have h71 : τ1.1 7 = nI R := by rw [f1.1 7 (by decide)]; exact h7
  have h81 : τ1.1 8 = nI k := by rw [f1.1 8 (by decide)]; exact h8
  -- one symbol is written
  have wr : ∀ (v d : Nat), 1 ≤ d → p + d ≤ R → rpl r R f s (16 + k) p = v :: rpl r R f s (16 + k) (p + d) → ∃ τ', g2 (putA τ1 11 W.length (nI v)) (nI f) (nI s) (nI (W.length + 1)) (nI (p + d)) = bd (f_m_X12_bestPair (putI (putI τ' 7 (nI (rpl r R f s (16 + k) 0).length)) 8 (nI (k + 1)))) (fun r240 σ240 => g σ240 r240) ∧ fr [] [11] τ τ' ∧ ∀ j y, (rpl r R f s (16 + k) 0)[j]? = some y → τ'.2 11 j = nI y := by
    intro v d hd hpd hv
    refine ih (m - d) _ _ _ _ _ (by omega) ⟨p + d, W ++ [v], by omega, rfl, rfl, by rw [List.length_append]; rfl, rfl, by rw [List.length_append]; show W.length + 1 ≤ _; omega, by rw [hsp, hv, List.append_assoc]; rfl, f1.pA (by decide), fun j y hy => ?_, fun j h1 h2 => ?_⟩
    · show upd (τ1.2 11) _ _ j = _
      rw [upd_at]
      by_cases z : j = W.length
      · rw [if_pos z]
        rw [z, List.getElem?_append_right (Nat.le_refl _), Nat.sub_self] at hy
        rw [← Option.some.inj hy]
      · rw [if_neg z]
        have hj : j < W.length := by
          have h9 := (List.getElem?_eq_some_iff.mp hy).1
          rw [List.length_append] at h9
          simp only [List.length_cons, List.length_nil] at h9
          omega
        rw [List.getElem?_append_left hj] at hy
        exact hw j y hy
    · show upd (τ1.2 11) _ _ j = _
      rw [upd_at, if_neg (by omega)]
      exact ho j (by omega) h2
  unfold f_m_X12_makeGrammar_122
  rw [h71, nI_1]
  by_cases z : p < R
  · have rp := ho p (Nat.le_refl p) z
    have hrp := (hr.2 p z).2
    rw [if_neg (fun y => nI_ge z (by omega) y)]
    have no : ¬ (p + 1 < R ∧ r p = f ∧ r (p + 1) = s) → ∃ τ', f_m_X12_makeGrammar_170 g g2 τ1 (nI f) (nI s) (nI W.length) (nI p) = bd (f_m_X12_bestPair (putI (putI τ' 7 (nI (rpl r R f s (16 + k) 0).length)) 8 (nI (k + 1)))) (fun r240 σ240 => g σ240 r240) ∧ fr [] [11] τ τ' ∧ ∀ j y, (rpl r R f s (16 + k) 0)[j]? = some y → τ'.2 11 j = nI y := by
      intro hm
      unfold f_m_X12_makeGrammar_170 f_m_X12_makeGrammar_171 f_m_X12_makeGrammar_201
      rw [if_pos rfl, gd_nI (show p < 400 by omega) (by decide), nI_clamp (show p < 2 ^ 31 by omega), rp, gd_nI (show W.length < 400 by omega) (by decide), if_pos rfl, nI_clamp (show W.length < 2 ^ 31 by omega), nI_1, nI_1]
      exact wr (r p) 1 (Nat.le_refl 1) (by omega) (by rw [rpl_s, if_pos z, if_neg hm])
    by_cases y : p + 1 < R
    · have rp1 := ho (p + 1) (by omega) y
      have hrp1 := (hr.2 (p + 1) y).2
      rw [if_neg (fun w => nI_ge y (by omega) w), gd_nI (show p < 400 by omega) (by decide), nI_clamp (by omega), rp]
      by_cases e1 : r p = f
      · rw [if_pos (by rw [e1]), gd_nI (show p + 1 < 400 by omega) (by decide), nI_clamp (by omega), rp1]
        by_cases e2 : r (p + 1) = s
        · rw [if_pos (by rw [e2])]
          unfold f_m_X12_makeGrammar_171 f_m_X12_makeGrammar_201
          rw [if_neg (by decide), gd_nI (show W.length < 400 by omega) (by decide), if_neg (by decide), nI_clamp (by omega), nI_1, i_2, nI_add, h81, i_16, nI_add]
          exact wr (16 + k) 2 (by decide) (by omega) (by rw [rpl_s, if_pos z, if_pos ⟨y, e1, e2⟩])
        · rw [if_neg (fun w => e2 ((nI_eq (by omega) (by omega)).mp w))]
          exact no (fun w => e2 w.2.2)
      · rw [if_neg (fun w => e1 ((nI_eq (by omega) (by omega)).mp w))]
        exact no (fun w => e1 w.2.1)
    · rw [if_pos (nI_le (by omega) (by omega))]
      exact no (fun w => y w.1)
  · rw [if_pos (nI_le (by omega) (by omega))]
    have hend : rpl r R f s (16 + k) p = [] := by rw [rpl_s, if_neg z]
    rw [hend, List.append_nil] at hsp
    rw [show (putI τ1 7 (nI W.length)).1 8 = nI k from h81, nI_1]
    exact ⟨τ1, by rw [hsp], f1, by rw [hsp]; exact hw⟩
theorem makeGrammar_m {τ : SS} {t : Nat → Nat} {n : Nat} (h : Tm τ t n) (hG : Gm τ) : ∃ τ' K, f_m_X12_makeGrammar τ = some ((), τ') ∧ GrM τ' t n K ∧ Gm τ' ∧ fr [7, 8, 9] [11, 12, 13, 14] τ τ' := by
  have hn := h.2.1
  have ht : ∀ i, i < n → t i < 16 := fun i hi => (h.2.2 i hi).1
  unfold f_m_X12_makeGrammar
  obtain ⟨b, eb, hb⟩ := isMade_m h
  rw [eb, bd_s]
  rcases hb with ⟨b1, b2, b3⟩ | b1
  · rw [if_neg (by rw [b1]; decide)]
    rcases hG with g1 | ⟨t', n', K, a1, a2, a3, a4⟩
    · rw [g1] at b2; exact absurd b2.symm (nI_m1 (by omega))
    · have e : n' = n := (nI_eq (by omega) (by omega)).mp (a2.symm.trans b2)
      subst e
      have ett : ∀ i, i < n' → t' i = t i := fun i hi => by
        have x1 := (a3 i hi)
        have x2 := (h.2.2 i hi)
        have x3 := b3 i hi
        rw [x1.2, x2.2] at x3
        exact (nI_eq (by omega) (by omega)).mp x3
      have hgs : ∀ k, gs t' n' k = gs t n' k := fun k => gs_nm ett k
      have hGr : GrM τ t n' K := by
        unfold GrM GN gR gr gF gS at a4 ⊢
        obtain ⟨c1, c2, c3, c4, c5⟩ := a4
        rw [← hgs K]
        refine ⟨⟨fun k hk => by rw [← hgs k]; exact c1.1 k hk, c1.2⟩, c2, c3, c4, c5⟩
      exact ⟨τ, K, rfl, hGr, Or.inr ⟨t', n', K, a1, a2, a3, a4⟩, fr.rf τ⟩
  · rw [if_pos b1]
    -- the rounds
    have rounds : ∀ τ1 : SS, fr [7, 8, 9] [11, 12, 13, 14] τ τ1 → τ1.1 9 = nI n → (∀ i, i < n → τ1.2 14 i = nI (t i)) → τ1.1 7 = nI n → τ1.1 8 = nI 0 → (∀ i, i < n → τ1.2 11 i = nI (t i)) →
        ∃ τ' K, bd (f_m_X12_bestPair τ1) (fun r70 σ70 => L1 f_m_X12_makeGrammar_74 FUEL σ70 r70) = some ((), τ') ∧ GrM τ' t n K ∧ Gm τ' ∧ fr [7, 8, 9] [11, 12, 13, 14] τ τ' := by
      intro τ1 f1 h9 h14 h7 h8 h11
      have hr0 : Rw (τ1.2 11) (gr t n 0) (gR t n 0) := ⟨hn, fun i hi => by
        have hi' : i < n := hi
        have e9 : gr t n 0 i = t i := by show nm t n i = _; unfold nm; rw [if_pos hi']
        rw [e9]
        exact ⟨h11 i hi', by have := ht i hi'; omega⟩⟩
      obtain ⟨best, e1, hb1⟩ := bestPair_m (R := gR t n 0) (r := gr t n 0) h7 hr0
      rw [e1, bd_s]
      refine L1_rule (I := fun m τ2 x => ∃ k, k + m = 200 ∧ fr [7, 8, 9] [11, 12, 13, 14] τ τ2 ∧ τ2.1 9 = nI n ∧ (∀ i, i < n → τ2.2 14 i = nI (t i)) ∧ τ2.1 7 = nI (gR t n k) ∧ τ2.1 8 = nI k ∧ Rw (τ2.2 11) (gr t n k) (gR t n k) ∧ (∀ i, i < k → ∃ f s, IsBP (gr t n i) (gR t n i) f s) ∧ (∀ j, j < k → τ2.2 12 j = nI (gF t n k j) ∧ τ2.2 13 j = nI (gS t n k j)) ∧ ((x = -2 ∧ ¬ ∃ f s, IsBP (gr t n k) (gR t n k) f s) ∨ ∃ b, b + 1 < gR t n k ∧ x = nI b ∧ IsBP (gr t n k) (gR t n k) (gr t n k b) (gr t n k (b + 1)))) (O := fun o => ∃ τ' K, o = some ((), τ') ∧ GrM τ' t n K ∧ Gm τ' ∧ fr [7, 8, 9] [11, 12, 13, 14] τ τ') ?_ FUEL 200 τ1 _ (by decide) ⟨0, rfl, f1, h9, h14, h7, h8, hr0, fun i hi => absurd hi (Nat.not_lt_zero i), fun j hj => absurd hj (Nat.not_lt_zero j), hb1⟩
      rintro g m τ2 x ⟨k, hk, f2, k9, k14, k7, k8, kr, kall, krul, hx⟩ ih
      obtain ⟨bd1, bd2, bd3⟩ := gs_bd ht k kall
      unfold f_m_X12_makeGrammar_74
      rcases hx with ⟨x1, x2⟩ | ⟨b, x1, x2, x3⟩
      · rw [if_pos x1]
        have hGr : GrM τ2 t n k := ⟨⟨kall, x2⟩, k7, k8, fun i hi => (kr.2 i hi).1, krul⟩
        exact ⟨τ2, k, rfl, hGr, Or.inr ⟨t, n, k, hn, k9, fun i hi => ⟨ht i hi, k14 i hi⟩, hGr⟩, f2⟩
      · have rb := kr.2 b (by omega)
        have rb1 := kr.2 (b + 1) x1
        have hlen := rpl_len (gr t n k) (gR t n k) (gr t n k b) (gr t n k (b + 1)) (16 + k) (gR t n k - 0) 0 rfl (Nat.zero_le _)
        have h2c := x3.1
        have hcl := cj_le (gr t n k) (gR t n k) (gr t n k b) (gr t n k (b + 1)) (gR t n k - 0) 0 rfl
        have hk199 : k < 200 := by omega
        rw [x2, if_neg (nI_m2 (by omega)), nI_1, gd_nI (show b < 400 by omega) (by decide), gd_nI (show b + 1 < 400 by omega) (by decide), nI_clamp (by omega), nI_clamp (by omega), rb.1, rb1.1, k8, gd_nI (show k < 200 by omega) (by decide), nI_clamp (by omega)]
        rw [show (putA τ2 12 k (nI (gr t n k b))).1 8 = nI k from k8, gd_nI (show k < 200 by omega) (by decide), nI_clamp (by omega)]
        obtain ⟨τ3, e3, f3, v3⟩ := replace_m (τ := putA (putA τ2 12 k (nI (gr t n k b))) 13 k (nI (gr t n k (b + 1)))) (r := gr t n k) (R := gR t n k) (f := gr t n k b) (s := gr t n k (b + 1)) (k := k) k7 kr k8 rb.2 rb1.2 (by omega) g
        rw [e3]
        obtain ⟨s1, s2, s3, s4⟩ := gs_s x3
        have f23 : fr [7, 8, 9] [11, 12, 13, 14] τ (putI (putI τ3 7 (nI (rpl (gr t n k) (gR t n k) (gr t n k b) (gr t n k (b + 1)) (16 + k) 0).length)) 8 (nI (k + 1))) :=
          ((f2.tr (((fr.rf τ2).pA (by decide)).pA (by decide))).tr (f3.up (by decide) (by decide))).tr (((fr.rf τ3).pI (by decide)).pI (by decide))
        have kall' : ∀ i, i < k + 1 → ∃ f s, IsBP (gr t n i) (gR t n i) f s := fun i hi => by
          by_cases w : i = k
          · rw [w]; exact ⟨_, _, x3⟩
          · exact kall i (by omega)
        obtain ⟨be1, be2, be3⟩ := gs_bd ht (k + 1) kall'
        have hr3 : Rw ((putI (putI τ3 7 (nI (rpl (gr t n k) (gR t n k) (gr t n k b) (gr t n k (b + 1)) (16 + k) 0).length)) 8 (nI (k + 1))).2 11) (gr t n (k + 1)) (gR t n (k + 1)) := by
          refine ⟨by omega, fun i hi => ?_⟩
          have hb' := be2 i hi
          refine ⟨?_, by omega⟩
          show τ3.2 11 i = _
          rw [s1] at hi
          rw [v3 i _ (List.getElem?_eq_getElem hi), s2]
          congr 1
          show _ = List.getD _ i 0
          rw [List.getD_eq_getElem?_getD, List.getElem?_eq_getElem hi]; rfl
        obtain ⟨best2, e4, hb4⟩ := bestPair_m (τ := putI (putI τ3 7 (nI (rpl (gr t n k) (gR t n k) (gr t n k b) (gr t n k (b + 1)) (16 + k) 0).length)) 8 (nI (k + 1))) (R := gR t n (k + 1)) (r := gr t n (k + 1)) (by rw [s1]; rfl) hr3
        rw [e4, bd_s]
        refine ih (m - 1) _ _ (by omega) ⟨k + 1, by omega, f23, ?_, fun i hi => ?_, by rw [s1]; rfl, rfl, hr3, kall', fun j hj => ?_, hb4⟩
        · show τ3.1 9 = _
          rw [f3.1 9 (by decide)]; exact k9
        · show τ3.2 14 i = _
          rw [f3.2 14 (by decide)]; exact k14 i hi
        · show τ3.2 12 j = _ ∧ τ3.2 13 j = _
          rw [f3.2 12 (by decide), f3.2 13 (by decide), s3, s4]
          show upd (τ2.2 12) k _ j = _ ∧ upd (τ2.2 13) k _ j = _
          rw [upd_at, upd_at]
          by_cases w : j = k
          · rw [if_pos w, if_pos w, w, tset_at, tset_at]; exact ⟨rfl, rfl⟩
          · rw [if_neg w, if_neg w, tset_lt (by omega), tset_lt (by omega)]; exact krul j (by omega)
    -- the text is copied
    have f0 : fr [7, 8, 9] [11, 12, 13, 14] τ (putI (putI (putI τ 9 (τ.1 1)) 7 ((putI τ 9 (τ.1 1)).1 1)) 8 0) := (((fr.rf τ).pI (by decide)).pI (by decide)).pI (by decide)
    refine L1_rule (I := fun m τ1 x => ∃ i, i + m = n ∧ x = nI i ∧ fr [7, 8, 9] [11, 12, 13, 14] τ τ1 ∧ τ1.1 9 = nI n ∧ τ1.1 7 = nI n ∧ τ1.1 8 = nI 0 ∧ ∀ j, j < i → τ1.2 14 j = nI (t j) ∧ τ1.2 11 j = nI (t j)) (O := fun o => ∃ τ' K, o = some ((), τ') ∧ GrM τ' t n K ∧ Gm τ' ∧ fr [7, 8, 9] [11, 12, 13, 14] τ τ') ?_ FUEL n _ _ (by unfold FUEL; omega) ⟨0, by omega, i_0, f0, h.1, h.1, i_0, fun j hj => absurd hj (Nat.not_lt_zero j)⟩
    rintro g m τ1 x ⟨i, hi, rfl, f1, h9, h7, h8, hv⟩ ih
    have h1 := h.fr f1 (by decide) (by decide)
    unfold f_m_X12_makeGrammar_31
    rw [h1.1]
    by_cases z : i < n
    · have ti := (h1.2.2 i z).2
      rw [if_neg (fun y => nI_ge z (by omega) y), gd_nI (show i < 400 by omega) (by decide), gd_nI (show i < 400 by omega) (by decide), gd_nI (show i < 400 by omega) (by decide), gd_nI (show i < 400 by omega) (by decide), nI_clamp (by omega), nI_1, ti]
      rw [show (putA τ1 14 i (nI (t i))).2 0 i = nI (t i) from ti]
      refine ih (m - 1) _ _ (by omega) ⟨i + 1, by omega, rfl, (f1.pA (by decide)).pA (by decide), h9, h7, h8, fun j hj => ?_⟩
      show upd (τ1.2 14) i _ j = _ ∧ upd (τ1.2 11) i _ j = _
      rw [upd_at, upd_at]
      by_cases w : j = i
      · rw [if_pos w, if_pos w, w]; exact ⟨rfl, rfl⟩
      · rw [if_neg w, if_neg w]; exact hv j (by omega)
    · have : i = n := by omega
      subst this
      rw [if_pos (nI_le (Nat.le_refl _) (by omega))]
      exact rounds τ1 f1 h9 (fun j hj => (hv j hj).1) h7 h8 (fun j hj => (hv j hj).2)
