/-! the grammar: the class, to its end -/
theorem before_c {σ : SS} {x y cx cy ax ay bx by' : Nat} (hx : x < 400) (hy : y < 400) (x1 : σ.2 23 x = nI cx) (y1 : σ.2 23 y = nI cy) (x2 : σ.2 21 x = nI ax) (y2 : σ.2 21 y = nI ay) (x3 : σ.2 22 x = nI bx) (y3 : σ.2 22 y = nI by') (b1 : cx < 2 ^ 31) (b2 : cy < 2 ^ 31) (b3 : ax < 2 ^ 31) (b4 : ay < 2 ^ 31) (b5 : bx < 2 ^ 31) (b6 : by' < 2 ^ 31) :
    (f_c_X5_goesBefore σ (nI x) (nI y) = some (1, σ) ∧ (cy < cx ∨ (cx = cy ∧ (ax < ay ∨ (ax = ay ∧ bx < by'))))) ∨ (f_c_X5_goesBefore σ (nI x) (nI y) = some (0, σ) ∧ ¬ (cy < cx ∨ (cx = cy ∧ (ax < ay ∨ (ax = ay ∧ bx < by'))))) := by
  unfold f_c_X5_goesBefore
  rw [nI_clamp (show x < 2 ^ 31 by omega), nI_clamp (show y < 2 ^ 31 by omega), x1, y1, x2, y2, x3, y3]
  have gx : ∀ k : Option (Int32 × SS), gd (nI x) 400 (gd (nI y) 400 k) = k := fun k => by rw [gd_nI hx (by decide), gd_nI hy (by decide)]
  rw [gx, gx, gx, gx, gx]
  by_cases e1 : cx = cy
  · rw [if_pos (by rw [e1])]
    by_cases e2 : ax = ay
    · rw [if_pos (by rw [e2])]
      by_cases e3 : bx < by'
      · rw [if_neg (fun q => nI_ge e3 b6 q)]
        exact Or.inl ⟨rfl, Or.inr ⟨e1, Or.inr ⟨e2, e3⟩⟩⟩
      · rw [if_pos (nI_le (by omega) b5)]
        exact Or.inr ⟨rfl, by omega⟩
    · rw [if_neg (fun q => e2 ((nI_eq b3 b4).mp q))]
      by_cases e3 : ax < ay
      · rw [if_neg (fun q => nI_ge e3 b4 q)]
        exact Or.inl ⟨rfl, Or.inr ⟨e1, Or.inl e3⟩⟩
      · rw [if_pos (nI_le (by omega) b3)]
        exact Or.inr ⟨rfl, by omega⟩
  · rw [if_neg (fun q => e1 ((nI_eq b1 b2).mp q))]
    by_cases e3 : cy < cx
    · rw [if_neg (fun q => nI_ge e3 b1 q)]
      exact Or.inl ⟨rfl, Or.inl e3⟩
    · rw [if_pos (nI_le (by omega) b2)]
      exact Or.inr ⟨rfl, by omega⟩
theorem best_c {σ : SS} {r : Nat → Nat} {R P : Nat} {a b : Nat → Nat} (hR : R ≤ 400) (hR1 : 1 ≤ R) (h : Tly σ r (R - 1) P a b) : ∃ best : Int32, f_c_X5_best σ = some (best, σ) ∧ ((best = -2 ∧ ¬ ∃ f s, IsBP r R f s) ∨ ∃ i, i < P ∧ best = nI i ∧ IsBP r R (a i) (b i)) := by
  obtain ⟨hp, h1, h2, h3, h4, h5⟩ := h
  have hcj : ∀ i, i < P → σ.2 23 i = nI (cj r R (a i) (b i) 0) ∧ cj r R (a i) (b i) 0 ≤ R := fun i hi => by
    have := (h5 i hi).1
    rw [gw_all r R _ _ hR1] at this
    exact ⟨this, cj_le r R _ _ (R - 0) 0 rfl⟩
  unfold f_c_X5_best
  refine L2_rule (I := fun k σ1 x1 x2 => ∃ p, p + k = P ∧ x2 = nI p ∧ σ1 = σ ∧ ((x1 = -2 ∧ ∀ j, j < p → cj r R (a j) (b j) 0 < 2) ∨ ∃ i, i < p ∧ x1 = nI i ∧ 2 ≤ cj r R (a i) (b i) 0 ∧ ∀ j, j < p → cj r R (a j) (b j) 0 < cj r R (a i) (b i) 0 ∨ (cj r R (a j) (b j) 0 = cj r R (a i) (b i) 0 ∧ (a i < a j ∨ (a i = a j ∧ b i ≤ b j))))) (O := fun o => ∃ best : Int32, o = some (best, σ) ∧ ((best = -2 ∧ ¬ ∃ f s, IsBP r R f s) ∨ ∃ i, i < P ∧ best = nI i ∧ IsBP r R (a i) (b i))) ?_ FUEL P σ _ _ (by unfold FUEL; omega) ⟨0, by omega, i_0, rfl, Or.inl ⟨rfl, fun j hj => absurd hj (Nat.not_lt_zero j)⟩⟩
  rintro g k σ1 x1 x2 ⟨p, hpk, rfl, rfl, hB⟩ ih
  unfold f_c_X5_best_5
  rw [hp.1]
  by_cases z : p < P
  · obtain ⟨c1, c2⟩ := hcj p z
    obtain ⟨p1, p2, p3, p4, -⟩ := hp.2.2.1 p z
    rw [if_neg (fun y => nI_ge z (by omega) y), gd_nI (show p < 400 by omega) (by decide), nI_clamp (by omega), c1, nI_1]
    by_cases w : cj r R (a p) (b p) 0 < 2
    · rw [if_pos (show nI (cj r R (a p) (b p) 0) < 2 by rw [i_2]; exact nI_lt w (by decide))]
      refine ih (k - 1) _ _ _ (by omega) ⟨p + 1, by omega, rfl, rfl, ?_⟩
      rcases hB with ⟨b1, b2⟩ | ⟨i, b1, b2, b3, b4⟩
      · refine Or.inl ⟨b1, fun j hj => ?_⟩
        by_cases e : j = p
        · rw [e]; exact w
        · exact b2 j (by omega)
      · refine Or.inr ⟨i, by omega, b2, b3, fun j hj => ?_⟩
        by_cases e : j = p
        · rw [e]; exact Or.inl (by omega)
        · exact b4 j (by omega)
    · rw [if_neg (show ¬ nI (cj r R (a p) (b p) 0) < 2 by rw [i_2]; exact nI_nlt (by omega) (by omega))]
      rcases hB with ⟨b1, b2⟩ | ⟨i, b1, b2, b3, b4⟩
      · rw [if_pos b1]
        refine ih (k - 1) _ _ _ (by omega) ⟨p + 1, by omega, rfl, rfl, Or.inr ⟨p, by omega, rfl, by omega, fun j hj => ?_⟩⟩
        by_cases e : j = p
        · rw [e]; exact Or.inr ⟨rfl, Or.inr ⟨rfl, Nat.le_refl _⟩⟩
        · have := b2 j (by omega)
          exact Or.inl (by omega)
      · obtain ⟨c3, c4⟩ := hcj i (by omega)
        obtain ⟨i1, i2, i3, i4, -⟩ := hp.2.2.1 i (by omega)
        rw [b2, if_neg (nI_m2 (by omega))]
        rcases before_c (σ := σ1) (x := p) (y := i) (by omega) (by omega) c1 c3 p1 i1 p2 i2 (by omega) (by omega) (by omega) (by omega) (by omega) (by omega) with ⟨e, hb⟩ | ⟨e, hb⟩
        · rw [e, bd_s, if_neg (by decide)]
          refine ih (k - 1) _ _ _ (by omega) ⟨p + 1, by omega, rfl, rfl, Or.inr ⟨p, by omega, rfl, by omega, fun j hj => ?_⟩⟩
          by_cases e2 : j = p
          · rw [e2]; exact Or.inr ⟨rfl, Or.inr ⟨rfl, Nat.le_refl _⟩⟩
          · have := b4 j (by omega)
            omega
        · rw [e, bd_s, if_pos rfl]
          refine ih (k - 1) _ _ _ (by omega) ⟨p + 1, by omega, rfl, rfl, Or.inr ⟨i, by omega, rfl, b3, fun j hj => ?_⟩⟩
          by_cases e2 : j = p
          · rw [e2]; omega
          · exact b4 j (by omega)
  · have : p = P := by omega
    subst this
    rw [if_pos (nI_le (Nat.le_refl _) (by omega))]
    refine ⟨x1, rfl, ?_⟩
    rcases hB with ⟨b1, b2⟩ | ⟨i, b1, b2, b3, b4⟩
    · refine Or.inl ⟨b1, ?_⟩
      rintro ⟨f, s, hb⟩
      have h2c := hb.1
      obtain ⟨q, -, q1, q2, q3⟩ := cj_pos (R - 0) 0 rfl (show 0 < cj r R f s 0 by omega)
      obtain ⟨i, i1, i2, i3⟩ := h3 q (by omega)
      have := b2 i i1
      rw [i2, i3, q2, q3] at this
      omega
    · refine Or.inr ⟨i, by omega, b2, b3, fun q hq => ?_⟩
      obtain ⟨j, j1, j2, j3⟩ := h3 q (by omega)
      have := b4 j (by omega)
      rw [j2, j3] at this
      exact this
theorem replacePair_c {σ : SS} {r : Nat → Nat} {R f s k : Nat} (h14 : σ.1 14 = nI R) (hr : Rw (σ.2 25) r R) (hf : f < 2 ^ 16) (hs : s < 2 ^ 16) :
    ∃ σ', f_c_X3_replacePair σ (nI f) (nI s) (nI (16 + k)) = some ((), putI σ' 14 (nI (rpl r R f s (16 + k) 0).length)) ∧ fr [] [25] σ σ' ∧ ∀ j y, (rpl r R f s (16 + k) 0)[j]? = some y → σ'.2 25 j = nI y := by
  have hR := hr.1
  unfold f_c_X3_replacePair
  refine L5_rule (I := fun m σ1 x1 x2 x3 x4 x5 => ∃ p W, p + m = R ∧ x1 = nI f ∧ x2 = nI s ∧ x3 = nI (16 + k) ∧ x4 = nI W.length ∧ x5 = nI p ∧ W.length ≤ p ∧ rpl r R f s (16 + k) 0 = W ++ rpl r R f s (16 + k) p ∧ fr [] [25] σ σ1 ∧ (∀ j y, W[j]? = some y → σ1.2 25 j = nI y) ∧ ∀ j, p ≤ j → j < R → σ1.2 25 j = nI (r j)) (O := fun o => ∃ σ', o = some ((), putI σ' 14 (nI (rpl r R f s (16 + k) 0).length)) ∧ fr [] [25] σ σ' ∧ ∀ j y, (rpl r R f s (16 + k) 0)[j]? = some y → σ'.2 25 j = nI y) ?_ FUEL R σ _ _ _ _ _ (by unfold FUEL; omega) ⟨0, [], by omega, rfl, rfl, rfl, i_0, i_0, Nat.le_refl 0, rfl, fr.rf σ, fun j y hy => (by cases hy), fun j _ hj => (hr.2 j hj).1⟩
  rintro g2 m σ1 x1 x2 x3 x4 x5 ⟨p, W, hp, rfl, rfl, rfl, rfl, rfl, hW, hsp, f1, hw, ho⟩ ih
  have h71 : σ1.1 14 = nI R := by rw [f1.1 14 (by decide)]; exact h14
  -- one symbol is written
  have wr : ∀ (v d : Nat), p + d < R → rpl r R f s (16 + k) p = v :: rpl r R f s (16 + k) (p + d + 1) → ∃ σ', f_c_X3_replacePair_60 g2 σ1 (nI f) (nI s) (nI (16 + k)) (nI W.length) (nI (p + d)) (nI v) = some ((), putI σ' 14 (nI (rpl r R f s (16 + k) 0).length)) ∧ fr [] [25] σ σ' ∧ ∀ j y, (rpl r R f s (16 + k) 0)[j]? = some y → σ'.2 25 j = nI y := by
    intro v d hpd hv
    unfold f_c_X3_replacePair_60
    rw [gd_nI (show W.length < 400 by omega) (by decide), nI_clamp (by omega), nI_1, nI_1]
    refine ih (m - (d + 1)) _ _ _ _ _ _ (by omega) ⟨p + d + 1, W ++ [v], by omega, rfl, rfl, rfl, by rw [List.length_append]; rfl, rfl, by rw [List.length_append]; show W.length + 1 ≤ _; omega, by rw [hsp, hv, List.append_assoc]; rfl, f1.pA (by decide), fun j y hy => ?_, fun j h1 h2 => ?_⟩
    · show upd (σ1.2 25) _ _ j = _
      rw [upd_at]
      by_cases z : j = W.length
      · rw [if_pos z]
        rw [z, List.getElem?_append_right (Nat.le_refl _), Nat.sub_self] at hy
        rw [← Option.some.inj hy]
      · rw [if_neg z]
        have hj : j < W.length := by
          have h9 := (List.getElem?_eq_some_iff.mp hy).1
          rw [List.length_append] at h9
          simp only [List.length_cons, List.length_nil] at h9
          omega
        rw [List.getElem?_append_left hj] at hy
        exact hw j y hy
    · show upd (σ1.2 25) _ _ j = _
      rw [upd_at, if_neg (by omega)]
      exact ho j (by omega) h2
  unfold f_c_X3_replacePair_6
  rw [h71, nI_1]
  by_cases z : p < R
  · have rp := ho p (Nat.le_refl p) z
    have hrp := (hr.2 p z).2
    rw [if_neg (fun y => nI_ge z (by omega) y), gd_nI (show p < 400 by omega) (by decide), nI_clamp (show p < 2 ^ 31 by omega), rp]
    have no : ¬ (p + 1 < R ∧ r p = f ∧ r (p + 1) = s) → ∃ σ', f_c_X3_replacePair_60 g2 σ1 (nI f) (nI s) (nI (16 + k)) (nI W.length) (nI p) (nI (r p)) = some ((), putI σ' 14 (nI (rpl r R f s (16 + k) 0).length)) ∧ fr [] [25] σ σ' ∧ ∀ j y, (rpl r R f s (16 + k) 0)[j]? = some y → σ'.2 25 j = nI y := by
      intro hm
      exact wr (r p) 0 (by omega) (by rw [rpl_s, if_pos z, if_neg hm])
    by_cases e1 : r p = f
    · rw [if_pos (by rw [e1])]
      by_cases y : p + 1 < R
      · have rp1 := ho (p + 1) (by omega) y
        have hrp1 := (hr.2 (p + 1) y).2
        rw [if_neg (fun w => nI_ge y (by omega) w), gd_nI (show p + 1 < 400 by omega) (by decide), nI_clamp (by omega), rp1]
        by_cases e2 : r (p + 1) = s
        · rw [if_pos (by rw [e2])]
          exact wr (16 + k) 1 (by omega) (by rw [rpl_s, if_pos z, if_pos ⟨y, e1, e2⟩])
        · rw [if_neg (fun w => e2 ((nI_eq (by omega) (by omega)).mp w))]
          exact no (fun w => e2 w.2.2)
      · rw [if_pos (nI_le (by omega) (by omega))]
        exact no (fun w => y w.1)
    · rw [if_neg (fun w => e1 ((nI_eq (by omega) (by omega)).mp w))]
      exact no (fun w => e1 w.2.1)
  · rw [if_pos (nI_le (by omega) (by omega))]
    have hend : rpl r R f s (16 + k) p = [] := by rw [rpl_s, if_neg z]
    rw [hend, List.append_nil] at hsp
    exact ⟨σ1, by rw [hsp], f1, by rw [hsp]; exact hw⟩
/-- k rules are made -/
def Gk (σ : SS) (t : Nat → Nat) (n k : Nat) : Prop := (∀ i, i < k → ∃ f s, IsBP (gr t n i) (gR t n i) f s) ∧ σ.1 14 = nI (gR t n k) ∧ σ.1 15 = nI k ∧ (∀ i, i < gR t n k → σ.2 25 i = nI (gr t n k i)) ∧ ∀ j, j < k → σ.2 26 j = nI (gF t n k j) ∧ σ.2 27 j = nI (gS t n k j)
theorem Gk.fr {I A : List Nat} {σ σ' : SS} {t : Nat → Nat} {n k : Nat} (h : Gk σ t n k) (f : fr I A σ σ') (h0 : 14 ∉ I ∧ 15 ∉ I) (h1 : 25 ∉ A ∧ 26 ∉ A ∧ 27 ∉ A) : Gk σ' t n k := by
  obtain ⟨a, b, c, d, e⟩ := h
  exact ⟨a, (f.1 14 h0.1).trans b, (f.1 15 h0.2).trans c, fun i hi => by rw [f.2 25 h1.1]; exact d i hi, fun j hj => by rw [f.2 26 h1.2.1, f.2 27 h1.2.2]; exact e j hj⟩
theorem tally_0 {σ : SS} : ∃ σ', f_c_X5_tally σ (nI 0) = some ((), σ') ∧ σ'.1 13 = 0 ∧ fr [13] [19, 20, 21, 22, 23, 24] σ σ' := by
  unfold f_c_X5_tally
  obtain ⟨σ0, e0, f0, v0⟩ := fill_30 σ (-2)
  rw [e0, bd_s]
  refine ⟨putI σ0 13 0, ?_, rfl, (f0.up (by decide) (by decide)).pI (by decide)⟩
  show f_c_X5_tally_16 _ _ _ _ = _
  unfold f_c_X5_tally_16
  rw [if_pos (by decide)]
theorem addRule_c {σ : SS} {t : Nat → Nat} {n k : Nat} (hn : n ≤ 400) (ht : ∀ i, i < n → t i < 16) (h : Gk σ t n k) : ∃ (b : Int32) (σ' : SS), f_c_X3_addRule σ = some (b, σ') ∧ fr [13, 14, 15] [19, 20, 21, 22, 23, 24, 25, 26, 27] σ σ' ∧ ((b = 0 ∧ Gk σ' t n k ∧ ¬ ∃ f s, IsBP (gr t n k) (gR t n k) f s) ∨ (b = 1 ∧ Gk σ' t n (k + 1))) := by
  obtain ⟨h1, h2, h3, h4, h5⟩ := h
  obtain ⟨g1, g2, g3⟩ := gs_bd ht k h1
  unfold f_c_X3_addRule
  rw [h2]
  by_cases z : 1 ≤ gR t n k
  · obtain ⟨σ1, P, a, b, e1, hT, f1⟩ := tally_c (σ := σ) (r := gr t n k) (R := gR t n k) (by omega) (fun i hi => ⟨h4 i hi, by have := g2 i hi; omega⟩)
    rw [e1, bd_s]
    have hG1 : Gk σ1 t n k := (show Gk σ t n k from ⟨h1, h2, h3, h4, h5⟩).fr f1 (by decide) (by decide)
    obtain ⟨best, e2, hb⟩ := best_c (by omega) z hT
    rw [e2, bd_s]
    rcases hb with ⟨b1, b2⟩ | ⟨i, i1, i2, i3⟩
    · rw [if_pos b1]
      exact ⟨0, σ1, rfl, f1.up (by decide) (by decide), Or.inl ⟨rfl, hG1, b2⟩⟩
    · obtain ⟨p1, p2, p3, p4, -⟩ := hT.1.2.2.1 i i1
      have hP := hT.2.1
      obtain ⟨-, k14, k15, k25, krul⟩ := hG1
      have hk : k < 200 := by omega
      rw [i2, if_neg (nI_m2 (by omega))]
      simp only [putA_1]
      rw [k15, gd_nI (show i < 400 by omega) (by decide), gd_nI hk (by decide), gd_nI (show i < 400 by omega) (by decide), gd_nI hk (by decide), gd_nI hk (by decide), gd_nI hk (by decide), nI_clamp (show i < 2 ^ 31 by omega), nI_clamp (show k < 2 ^ 31 by omega), i_16, nI_add, p1]
      rw [show (putA σ1 26 k (nI (a i))).2 22 i = nI (b i) from p2]
      have a26 : (putA (putA σ1 26 k (nI (a i))) 27 k (nI (b i))).2 26 k = nI (a i) := by
        show upd (σ1.2 26) k _ k = _
        rw [upd_at, if_pos rfl]
      have a27 : (putA (putA σ1 26 k (nI (a i))) 27 k (nI (b i))).2 27 k = nI (b i) := by
        show upd (σ1.2 27) k _ k = _
        rw [upd_at, if_pos rfl]
      rw [a26, a27]
      obtain ⟨σ3, e3, f3, v3⟩ := replacePair_c (σ := putA (putA σ1 26 k (nI (a i))) 27 k (nI (b i))) (r := gr t n k) (R := gR t n k) (f := a i) (s := b i) (k := k) k14 ⟨by omega, fun j hj => ⟨k25 j hj, by have := g2 j hj; omega⟩⟩ (by omega) (by omega)
      rw [e3, bd_s]
      have k15' : (putI σ3 14 (nI (rpl (gr t n k) (gR t n k) (a i) (b i) (16 + k) 0).length)).1 15 = nI k := by
        show σ3.1 15 = _
        rw [f3.1 15 (by decide)]; exact k15
      rw [k15', nI_1]
      obtain ⟨s1, s2, s3, s4⟩ := gs_s i3
      refine ⟨1, _, rfl, ?_, Or.inr ⟨rfl, fun j hj => ?_, ?_, rfl, fun j hj => ?_, fun j hj => ?_⟩⟩
      · exact ((((f1.up (by decide) (by decide)).pA (by decide)).pA (by decide)).tr (f3.up (by decide) (by decide))).pI (by decide) |>.pI (by decide)
      · by_cases w : j = k
        · rw [w]; exact ⟨_, _, i3⟩
        · exact h1 j (by omega)
      · rw [s1]; rfl
      · show σ3.2 25 j = _
        rw [s1] at hj
        rw [v3 j _ (List.getElem?_eq_getElem hj), s2]
        exact congrArg nI (show _ = List.getD _ j 0 by rw [List.getD_eq_getElem?_getD, List.getElem?_eq_getElem hj]; rfl)
      · show σ3.2 26 j = _ ∧ σ3.2 27 j = _
        rw [f3.2 26 (by decide), f3.2 27 (by decide), s3, s4]
        show upd (σ1.2 26) k _ j = _ ∧ upd (σ1.2 27) k _ j = _
        rw [upd_at, upd_at]
        by_cases w : j = k
        · rw [if_pos w, if_pos w, w, tset_at, tset_at]; exact ⟨rfl, rfl⟩
        · rw [if_neg w, if_neg w, tset_lt (by omega), tset_lt (by omega)]; exact krul j (by omega)
  · have hz : gR t n k = 0 := by omega
    rw [hz]
    obtain ⟨σ1, e1, p1, f1⟩ := tally_0 (σ := σ)
    rw [e1, bd_s]
    have eb : f_c_X5_best σ1 = some (-2, σ1) := by
      show f_c_X5_best_5 _ _ _ _ = _
      unfold f_c_X5_best_5
      rw [p1, if_pos (by decide)]
    rw [eb, bd_s, if_pos rfl]
    refine ⟨0, σ1, rfl, f1.up (by decide) (by decide), Or.inl ⟨rfl, (show Gk σ t n k from ⟨h1, h2, h3, h4, h5⟩).fr f1 (by decide) (by decide), ?_⟩⟩
    rintro ⟨f, s, hb⟩
    have h2c := hb.1
    have := cj_le (gr t n k) 0 f s (0 - 0) 0 rfl
    omega
/-- the class's grammar of a text -/
def Gr (σ : SS) (t : Nat → Nat) (n : Nat) : Prop := ∃ K, GN t n K ∧ Gk σ t n K
theorem Gr.fr {I A : List Nat} {σ σ' : SS} {t : Nat → Nat} {n : Nat} (h : Gr σ t n) (f : fr I A σ σ') (h0 : 14 ∉ I ∧ 15 ∉ I) (h1 : 25 ∉ A ∧ 26 ∉ A ∧ 27 ∉ A) : Gr σ' t n := by
  obtain ⟨K, a, b⟩ := h
  exact ⟨K, a, b.fr f h0 h1⟩
theorem follow_g {σ : SS} {t : Nat → Nat} {n : Nat} (h : Tc σ t n) (hc : σ.1 16 = σ.1 1 → Gr σ t n) : ∃ σ', f_c_X3_follow σ = some ((), σ') ∧ Gr σ' t n ∧ σ'.1 16 = σ.1 1 ∧ fr [13, 14, 15, 16] [19, 20, 21, 22, 23, 24, 25, 26, 27] σ σ' := by
  have hn := h.2.1
  have ht : ∀ i, i < n → t i < 16 := fun i hi => (h.2.2.1 i hi).1
  unfold f_c_X3_follow
  by_cases e : σ.1 16 = σ.1 1
  · rw [if_pos e]
    exact ⟨σ, rfl, hc e, e, fr.rf σ⟩
  · rw [if_neg e]
    rw [show (putI σ 16 (σ.1 1)).1 0 = nI n from h.1, gc_nI hn (by decide), nI_clamp (by omega)]
    rw [show (putR (putI σ 16 (σ.1 1)) 25 (va_cpy ((putI σ 16 (σ.1 1)).2 0) ((putI σ 16 (σ.1 1)).2 25) 0 0 n)).1 0 = nI n from h.1]
    have f0 : fr [13, 14, 15, 16] [19, 20, 21, 22, 23, 24, 25, 26, 27] σ (putI (putI (putR (putI σ 16 (σ.1 1)) 25 (va_cpy ((putI σ 16 (σ.1 1)).2 0) ((putI σ 16 (σ.1 1)).2 25) 0 0 n)) 14 (nI n)) 15 0) := ((((fr.rf σ).pI (by decide)).pR (by decide)).pI (by decide)).pI (by decide)
    have g0 : Gk (putI (putI (putR (putI σ 16 (σ.1 1)) 25 (va_cpy ((putI σ 16 (σ.1 1)).2 0) ((putI σ 16 (σ.1 1)).2 25) 0 0 n)) 14 (nI n)) 15 0) t n 0 := by
      refine ⟨fun i hi => absurd hi (Nat.not_lt_zero i), rfl, i_0, fun i hi => ?_, fun j hj => absurd hj (Nat.not_lt_zero j)⟩
      have hi' : i < n := hi
      show va_cpy (σ.2 0) (σ.2 25) 0 0 n i = nI (nm t n i)
      rw [pk_cpy_in (Nat.zero_le i) (by omega), show 0 + (i - 0) = i by omega, (h.2.2.1 i hi').2]
      unfold nm
      rw [if_pos hi']
    refine L2_rule (I := fun m σ1 x2 x3 => ∃ k, fr [13, 14, 15, 16] [19, 20, 21, 22, 23, 24, 25, 26, 27] σ σ1 ∧ σ1.1 16 = σ.1 1 ∧ Gk σ1 t n k ∧ ((x2 = 1 ∧ x3 = nI k ∧ k + m = 201) ∨ (x2 = 0 ∧ ¬ ∃ f s, IsBP (gr t n k) (gR t n k) f s))) (O := fun o => ∃ σ', o = some ((), σ') ∧ Gr σ' t n ∧ σ'.1 16 = σ.1 1 ∧ fr [13, 14, 15, 16] [19, 20, 21, 22, 23, 24, 25, 26, 27] σ σ') ?_ FUEL 201 _ _ _ (by decide) ⟨0, f0, rfl, g0, Or.inl ⟨rfl, i_0, rfl⟩⟩
    rintro g m σ1 x2 x3 ⟨k, f1, v1, hG, hx⟩ ih
    unfold f_c_X3_follow_54
    rcases hx with ⟨x1, x2', x3'⟩ | ⟨x1, x2'⟩
    · obtain ⟨g1, g2, g3⟩ := gs_bd ht k hG.1
      rw [if_neg (by rw [x1]; decide), x2', i_200]
      by_cases z : k < 200
      · rw [if_neg (fun y => nI_ge z (by decide) y)]
        obtain ⟨b, σ2, e2, f2, hb⟩ := addRule_c hn ht hG
        rw [e2, bd_s, nI_1]
        have v2 : σ2.1 16 = σ.1 1 := (f2.1 16 (by decide)).trans v1
        rcases hb with ⟨b1, b2, b3⟩ | ⟨b1, b2⟩
        · exact ih (m - 1) _ _ _ (by omega) ⟨k, f1.tr (f2.up (by decide) (by decide)), v2, b2, Or.inr ⟨b1, b3⟩⟩
        · exact ih (m - 1) _ _ _ (by omega) ⟨k + 1, f1.tr (f2.up (by decide) (by decide)), v2, b2, Or.inl ⟨b1, rfl, by omega⟩⟩
      · rw [if_pos (nI_le (by omega) (by omega))]
        refine ⟨σ1, rfl, ⟨k, ⟨hG.1, ?_⟩, hG⟩, v1, f1⟩
        rintro ⟨f, s, hb⟩
        have h2c := hb.1
        have := cj_le (gr t n k) (gR t n k) f s (gR t n k - 0) 0 rfl
        omega
    · rw [if_pos x1]
      exact ⟨σ1, rfl, ⟨k, ⟨hG.1, x2'⟩, hG⟩, v1, f1⟩
