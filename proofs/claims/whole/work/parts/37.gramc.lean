/-! the grammar: the class -/
/-- the last index below k with this first symbol, or -2 -/
def li (a : Nat → Nat) (f : Nat) : Nat → Int32
  | 0 => -2
  | k + 1 => if a k = f then nI k else li a f k
theorem li_s (a : Nat → Nat) (f k : Nat) : li a f (k + 1) = if a k = f then nI k else li a f k := rfl
theorem li_or (a : Nat → Nat) (f k : Nat) : (li a f k = -2 ∧ ∀ i, i < k → a i ≠ f) ∨ ∃ i, i < k ∧ li a f k = nI i ∧ a i = f ∧ ∀ j, i < j → j < k → a j ≠ f := by
  induction k with
  | zero => exact Or.inl ⟨rfl, fun i hi => absurd hi (Nat.not_lt_zero i)⟩
  | succ k ih =>
    rw [li_s]
    by_cases z : a k = f
    · rw [if_pos z]
      exact Or.inr ⟨k, by omega, rfl, z, fun j h1 h2 => by omega⟩
    · rw [if_neg z]
      rcases ih with ⟨h1, h2⟩ | ⟨i, h1, h2, h3, h4⟩
      · refine Or.inl ⟨h1, fun i hi => ?_⟩
        by_cases e : i = k
        · rw [e]; exact z
        · exact h2 i (by omega)
      · refine Or.inr ⟨i, by omega, h2, h3, fun j j1 j2 => ?_⟩
        by_cases e : j = k
        · rw [e]; exact z
        · exact h4 j j1 (by omega)
theorem li_congr {a a' : Nat → Nat} {f k : Nat} (h : ∀ i, i < k → a i = a' i) : li a f k = li a' f k := by
  induction k with
  | zero => rfl
  | succ k ih => rw [li_s, li_s, ih (fun i hi => h i (by omega)), h k (by omega)]
/-- P pairs are entered -/
def Prs (σ : SS) (P : Nat) (a b : Nat → Nat) : Prop := σ.1 13 = nI P ∧ P ≤ 400 ∧ (∀ i, i < P → σ.2 21 i = nI (a i) ∧ σ.2 22 i = nI (b i) ∧ a i < 216 ∧ b i < 216 ∧ σ.2 20 i = li a (a i) i) ∧ ∀ f, f < 216 → σ.2 19 f = li a f P
theorem pairNew_c {σ : SS} {P f s : Nat} {a b : Nat → Nat} (h : Prs σ P a b) (hP : P < 400) (hf : f < 216) (hs : s < 216) : ∃ σ', f_c_X5_pairOf_50 σ (nI f) (nI s) = some (nI P, σ') ∧ Prs σ' (P + 1) (tset a P f) (tset b P s) ∧ fr [13] [19, 20, 21, 22, 23] σ σ' ∧ σ'.2 23 = upd (σ.2 23) P 0 := by
  obtain ⟨h0, -, h1, h2⟩ := h
  have h2f := h2 f hf
  unfold f_c_X5_pairOf_50
  simp only [putA_1]
  rw [h0, gd_nI hP (by decide), gd_nI hP (by decide), gd_nI hP (by decide), gd_nI hf (by decide), gd_nI hP (by decide), gd_nI hf (by decide), nI_clamp (show P < 2 ^ 31 by omega), nI_clamp (show f < 2 ^ 31 by omega), nI_1]
  refine ⟨_, rfl, ⟨rfl, by omega, fun i hi => ?_, fun g hg => ?_⟩, ?_, rfl⟩
  · show upd (σ.2 21) P (nI f) i = _ ∧ upd (σ.2 22) P (nI s) i = _ ∧ _ ∧ _ ∧ upd (σ.2 20) P (σ.2 19 f) i = _
    rw [upd_at, upd_at, upd_at]
    by_cases e : i = P
    · subst e
      rw [if_pos rfl, if_pos rfl, if_pos rfl, tset_at, tset_at, h2f]
      exact ⟨rfl, rfl, hf, hs, li_congr (fun j hj => (tset_lt hj).symm)⟩
    · rw [if_neg e, if_neg e, if_neg e, tset_lt (by omega), tset_lt (by omega)]
      obtain ⟨c1, c2, c3, c4, c5⟩ := h1 i (by omega)
      exact ⟨c1, c2, c3, c4, by rw [c5]; exact li_congr (fun j hj => (tset_lt (by omega)).symm)⟩
  · show upd (σ.2 19) f (nI P) g = _
    rw [upd_at, li_s, tset_at]
    by_cases e : g = f
    · rw [if_pos e, if_pos e.symm]
    · rw [if_neg e, if_neg (fun q => e q.symm), h2 g hg]
      exact li_congr (fun j hj => (tset_lt hj).symm)
  · exact ((((((fr.rf σ).pA (by decide)).pA (by decide)).pA (by decide)).pA (by decide)).pA (by decide)).pI (by decide)
theorem pairOf_c {σ : SS} {P f s : Nat} {a b : Nat → Nat} (h : Prs σ P a b) (hP : P < 400) (hf : f < 216) (hs : s < 216) : (∃ i, i < P ∧ a i = f ∧ b i = s ∧ f_c_X5_pairOf σ (nI f) (nI s) = some (nI i, σ)) ∨
    ((∀ i, i < P → ¬ (a i = f ∧ b i = s)) ∧ ∃ σ', f_c_X5_pairOf σ (nI f) (nI s) = some (nI P, σ') ∧ Prs σ' (P + 1) (tset a P f) (tset b P s) ∧ fr [13] [19, 20, 21, 22, 23] σ σ' ∧ σ'.2 23 = upd (σ.2 23) P 0) := by
  obtain ⟨σn, n1, n2, n3, n4⟩ := pairNew_c h hP hf hs
  obtain ⟨h0, -, h1, h2⟩ := h
  unfold f_c_X5_pairOf
  rw [gd_nI hf (by decide), nI_clamp (by omega), h2 f hf]
  refine L4_rule (I := fun m σ1 x1 x2 x3 x4 => ∃ k c, m = k ∧ c + k ≤ P ∧ σ1 = σ ∧ x1 = nI f ∧ x2 = nI s ∧ x3 = li a f k ∧ x4 = nI c ∧ ∀ i, k ≤ i → i < P → ¬ (a i = f ∧ b i = s)) (O := fun o => (∃ i, i < P ∧ a i = f ∧ b i = s ∧ o = some (nI i, σ)) ∨ ((∀ i, i < P → ¬ (a i = f ∧ b i = s)) ∧ ∃ σ', o = some (nI P, σ') ∧ Prs σ' (P + 1) (tset a P f) (tset b P s) ∧ fr [13] [19, 20, 21, 22, 23] σ σ' ∧ σ'.2 23 = upd (σ.2 23) P 0)) ?_ FUEL P σ _ _ _ _ (by unfold FUEL; omega) ⟨P, 0, rfl, by omega, rfl, rfl, rfl, rfl, i_0, fun i h1 h2 => by omega⟩
  rintro g m σ1 x1 x2 x3 x4 ⟨k, c, rfl, hc, rfl, rfl, rfl, rfl, rfl, hno⟩ ih
  unfold f_c_X5_pairOf_10
  rw [h0]
  by_cases z : c < P
  · rw [if_neg (fun y => nI_ge z (by omega) y)]
    rcases li_or a f m with ⟨l1, l2⟩ | ⟨i, l1, l2, l3, l4⟩
    · rw [if_pos l1]
      exact Or.inr ⟨fun i hi => by
        by_cases w : i < m
        · exact fun q => l2 i w q.1
        · exact hno i (by omega) hi, σn, n1, n2, n3, n4⟩
    · obtain ⟨c1, c2, c3, c4, c5⟩ := h1 i (by omega)
      rw [l2, if_neg (nI_m2 (by omega)), gd_nI (show i < 400 by omega) (by decide), gd_nI (show i < 400 by omega) (by decide), nI_clamp (by omega), c2]
      by_cases e : b i = s
      · rw [if_pos (by rw [e])]
        exact Or.inl ⟨i, by omega, l3, e, rfl⟩
      · rw [if_neg (fun q => e ((nI_eq (by omega) (by omega)).mp q)), nI_1, c5, l3]
        refine ih i _ _ _ _ _ l1 ⟨i, c + 1, rfl, by omega, rfl, rfl, rfl, rfl, rfl, fun j j1 j2 => ?_⟩
        by_cases w : j = i
        · rw [w]; exact fun q => e q.2
        · by_cases w2 : j < m
          · exact fun q => l4 j (by omega) w2 q.1
          · exact hno j (by omega) j2
  · rw [if_pos (nI_le (by omega) (by omega))]
    exact Or.inr ⟨fun i hi => hno i (by omega) hi, σn, n1, n2, n3, n4⟩
/-- the pairs of the first m places are entered, and counted -/
def Tly (σ : SS) (r : Nat → Nat) (m P : Nat) (a b : Nat → Nat) : Prop := Prs σ P a b ∧ P ≤ m ∧ (∀ i j, i < P → j < P → a i = a j → b i = b j → i = j) ∧ (∀ q, q < m → ∃ i, i < P ∧ a i = r q ∧ b i = r (q + 1)) ∧ (∀ i, i < P → ∃ q, q < m ∧ r q = a i ∧ r (q + 1) = b i) ∧ ∀ i, i < P → σ.2 23 i = nI (gw r (a i) (b i) m).1 ∧ σ.2 24 i = nI (gw r (a i) (b i) m).2
theorem Prs.fr {I A : List Nat} {σ σ' : SS} {P : Nat} {a b : Nat → Nat} (h : Prs σ P a b) (f : fr I A σ σ') (h0 : 13 ∉ I) (h1 : 19 ∉ A ∧ 20 ∉ A ∧ 21 ∉ A ∧ 22 ∉ A) : Prs σ' P a b := by
  obtain ⟨a0, a1, a2, a3⟩ := h
  exact ⟨(f.1 13 h0).trans a0, a1, fun i hi => by rw [f.2 20 h1.2.1, f.2 21 h1.2.2.1, f.2 22 h1.2.2.2]; exact a2 i hi, fun g hg => by rw [f.2 19 h1.1]; exact a3 g hg⟩
/-- a place's pair is counted, or passed over -/
theorem Tly_s {σ σ' : SS} {r : Nat → Nat} {m P j : Nat} {a b : Nat → Nat} (h : Tly σ r m P a b) (hj : j < P) (ja : a j = r m) (jb : b j = r (m + 1)) (hp : Prs σ' P a b)
    (h23 : ∀ i, i < P → i ≠ j → σ'.2 23 i = σ.2 23 i ∧ σ'.2 24 i = σ.2 24 i) (hv : σ'.2 23 j = nI (gw r (r m) (r (m + 1)) (m + 1)).1 ∧ σ'.2 24 j = nI (gw r (r m) (r (m + 1)) (m + 1)).2) : Tly σ' r (m + 1) P a b := by
  obtain ⟨-, h1, h2, h3, h4, h5⟩ := h
  refine ⟨hp, by omega, h2, fun q hq => ?_, fun i hi => ?_, fun i hi => ?_⟩
  · by_cases e : q = m
    · rw [e]; exact ⟨j, hj, ja, jb⟩
    · exact h3 q (by omega)
  · obtain ⟨q, q1, q2⟩ := h4 i hi
    exact ⟨q, by omega, q2⟩
  · by_cases e : i = j
    · rw [e, ja, jb]; exact hv
    · obtain ⟨c1, c2⟩ := h23 i hi e
      rw [c1, c2]
      have hg : gw r (a i) (b i) (m + 1) = gw r (a i) (b i) m := by
        rw [gw_s, if_neg]
        rintro ⟨q1, q2, -⟩
        exact e (h2 i j hi hj (by rw [← q1, ja]) (by rw [← q2, jb]))
      rw [hg]
      exact h5 i hi
theorem tally_c {σ : SS} {r : Nat → Nat} {R : Nat} (hR : R ≤ 400) (hr : ∀ i, i < R → σ.2 25 i = nI (r i) ∧ r i < 216) : ∃ σ' P a b, f_c_X5_tally σ (nI R) = some ((), σ') ∧ Tly σ' r (R - 1) P a b ∧ fr [13] [19, 20, 21, 22, 23, 24] σ σ' := by
  unfold f_c_X5_tally
  obtain ⟨σ0, e0, f0, v0⟩ := fill_30 σ (-2)
  rw [e0, bd_s]
  have fi : fr [13] [19, 20, 21, 22, 23, 24] σ (putI σ0 13 0) := (f0.up (by decide) (by decide)).pI (by decide)
  refine L2_rule (I := fun k σ1 x2 x3 => ∃ m P a b, m + k = R - 1 ∧ x2 = nI R ∧ x3 = nI m ∧ Tly σ1 r m P a b ∧ fr [13] [19, 20, 21, 22, 23, 24] σ σ1) (O := fun o => ∃ σ' P a b, o = some ((), σ') ∧ Tly σ' r (R - 1) P a b ∧ fr [13] [19, 20, 21, 22, 23, 24] σ σ') ?_ FUEL (R - 1) _ _ _ (by unfold FUEL; omega) ⟨0, 0, fun _ => 0, fun _ => 0, by omega, rfl, i_0, ⟨⟨i_0, by omega, fun i hi => absurd hi (Nat.not_lt_zero i), fun f hf => v0 f hf⟩, Nat.le_refl 0, fun i j hi => absurd hi (Nat.not_lt_zero i), fun q hq => absurd hq (Nat.not_lt_zero q), fun i hi => absurd hi (Nat.not_lt_zero i), fun i hi => absurd hi (Nat.not_lt_zero i)⟩, fi⟩
  rintro g k σ1 x2 x3 ⟨m, P, a, b, hm, rfl, rfl, hT, f1⟩ ih
  unfold f_c_X5_tally_16
  rw [nI_1]
  by_cases z : m + 1 < R
  · have r0 := hr m (by omega)
    have r1 := hr (m + 1) z
    have hPm := hT.2.1
    rw [if_neg (fun y => nI_ge z (by omega) y), gd_nI (show m < 400 by omega) (by decide), gd_nI (show m + 1 < 400 by omega) (by decide), nI_clamp (show m < 2 ^ 31 by omega), nI_clamp (show m + 1 < 2 ^ 31 by omega), f1.2 25 (by decide), r0.1, r1.1]
    -- counting it
    have t60 : ∀ (σ2 : SS) (P' j : Nat) (a' b' : Nat → Nat), Prs σ2 P' a' b' → P' ≤ m + 1 → fr [13] [19, 20, 21, 22, 23, 24] σ σ2 → j < P' → ∀ c : Nat, σ2.2 23 j = nI c → (∀ σ3, Prs σ3 P' a' b' → σ3.2 23 = upd (σ2.2 23) j (nI (c + 1)) → σ3.2 24 = upd (σ2.2 24) j (nI m) → Tly σ3 r (m + 1) P' a' b') → ∃ σ' P a b, f_c_X5_tally_60 g σ2 (nI R) (nI m) (nI j) = some ((), σ') ∧ Tly σ' r (R - 1) P a b ∧ fr [13] [19, 20, 21, 22, 23, 24] σ σ' := by
      intro σ2 P' j a' b' hp hP' f2 hj c hc hT'
      unfold f_c_X5_tally_60
      rw [gd_nI (show j < 400 by omega) (by decide), gd_nI (show j < 400 by omega) (by decide), gd_nI (show j < 400 by omega) (by decide), nI_clamp (by omega), nI_1, hc, nI_1]
      have f3 : fr [] [23, 24] σ2 (putA (putA σ2 23 j (nI (c + 1))) 24 j (nI m)) := ((fr.rf σ2).pA (by decide)).pA (by decide)
      exact ih (k - 1) _ _ _ (by omega) ⟨m + 1, P', a', b', by omega, rfl, rfl, hT' _ (hp.fr f3 (by decide) (by decide)) rfl rfl, f2.tr (f3.up (by decide) (by decide))⟩
    rcases pairOf_c (f := r m) (s := r (m + 1)) hT.1 (show P < 400 by omega) r0.2 r1.2 with ⟨j, j1, j2, j3, e⟩ | ⟨hno, σ2, e, hp, f2, v2⟩
    · rw [e, bd_s]
      obtain ⟨d1, d2⟩ := hT.2.2.2.2.2 j j1
      obtain ⟨q, q1, q2, q3⟩ := hT.2.2.2.2.1 j j1
      rw [j2, j3] at d1 d2
      rw [j2] at q2
      rw [j3] at q3
      have hpos : 0 < (gw r (r m) (r (m + 1)) m).1 := gw_pos.mpr ⟨q, q1, q2, q3⟩
      have hle := gw_le r (r m) (r (m + 1)) m
      have hla := gw_last r (r m) (r (m + 1)) m
      rw [gd_nI (show j < 400 by omega) (by decide), gd_nI (show j < 400 by omega) (by decide), nI_clamp (by omega), d1, d2, if_neg (nI_ne0 hpos (by omega)), nI_1]
      by_cases w : (gw r (r m) (r (m + 1)) m).2 + 1 < m
      · have hg : gw r (r m) (r (m + 1)) (m + 1) = ((gw r (r m) (r (m + 1)) m).1 + 1, m) := by rw [gw_s, if_pos ⟨rfl, rfl, Or.inr w⟩]
        rw [if_neg (fun y => nI_ge w (by omega) y)]
        refine t60 σ1 P j a b hT.1 (by omega) f1 j1 _ d1 (fun σ3 hp3 u1 u2 => Tly_s hT j1 j2 j3 hp3 (fun i hi hne => ?_) ?_)
        · rw [u1, u2, upd_at, upd_at, if_neg hne, if_neg hne]; exact ⟨rfl, rfl⟩
        · rw [u1, u2, upd_at, upd_at, if_pos rfl, if_pos rfl, hg]; exact ⟨rfl, rfl⟩
      · have hg : gw r (r m) (r (m + 1)) (m + 1) = gw r (r m) (r (m + 1)) m := by
          rw [gw_s, if_neg]
          rintro ⟨-, -, y | y⟩
          · omega
          · exact w y
        rw [if_pos (nI_le (by omega) (by omega))]
        refine ih (k - 1) _ _ _ (by omega) ⟨m + 1, P, a, b, by omega, rfl, rfl, Tly_s hT j1 j2 j3 hT.1 (fun i hi hne => ⟨rfl, rfl⟩) ?_, f1⟩
        rw [hg]; exact ⟨d1, d2⟩
    · rw [e, bd_s]
      have hnq : ∀ q, q < m → ¬ (r q = r m ∧ r (q + 1) = r (m + 1)) := fun q hq w => by
        obtain ⟨i, i1, i2, i3⟩ := hT.2.2.2.1 q hq
        exact hno i i1 ⟨i2.trans w.1, i3.trans w.2⟩
      have h0 : (gw r (r m) (r (m + 1)) m).1 = 0 := by
        rcases Nat.eq_zero_or_pos (gw r (r m) (r (m + 1)) m).1 with w | w
        · exact w
        · obtain ⟨q, q1, q2, q3⟩ := gw_pos.mp w
          exact absurd ⟨q2, q3⟩ (hnq q q1)
      have hg : gw r (r m) (r (m + 1)) (m + 1) = (1, m) := by rw [gw_s, if_pos ⟨rfl, rfl, Or.inl h0⟩, h0]
      have c0 : σ2.2 23 P = nI 0 := by rw [v2, upd_at, if_pos rfl]; exact i_0
      rw [gd_nI (show P < 400 by omega) (by decide), nI_clamp (by omega), c0, if_pos i_0.symm]
      refine t60 σ2 (P + 1) P _ _ hp (by omega) (f1.tr (f2.up (by decide) (by decide))) (by omega) 0 c0 (fun σ3 hp3 u1 u2 => ?_)
      obtain ⟨-, h1, h2, h3, h4, h5⟩ := hT
      refine ⟨hp3, by omega, fun i j hi hj ea eb => ?_, fun q hq => ?_, fun i hi => ?_, fun i hi => ?_⟩
      · by_cases ei : i = P
        · by_cases ej : j = P
          · rw [ei, ej]
          · rw [ei, tset_at, tset_lt (by omega)] at ea eb
            exact absurd ⟨ea.symm, eb.symm⟩ (hno j (by omega))
        · by_cases ej : j = P
          · rw [ej, tset_at, tset_lt (by omega)] at ea eb
            exact absurd ⟨ea, eb⟩ (hno i (by omega))
          · rw [tset_lt (by omega), tset_lt (by omega)] at ea eb
            exact h2 i j (by omega) (by omega) ea eb
      · by_cases eq : q = m
        · rw [eq]; exact ⟨P, by omega, tset_at, tset_at⟩
        · obtain ⟨i, i1, i2, i3⟩ := h3 q (by omega)
          exact ⟨i, by omega, by rw [tset_lt i1]; exact i2, by rw [tset_lt i1]; exact i3⟩
      · by_cases ei : i = P
        · rw [ei]; exact ⟨m, by omega, tset_at.symm, tset_at.symm⟩
        · obtain ⟨q, q1, q2, q3⟩ := h4 i (by omega)
          exact ⟨q, by omega, by rw [tset_lt (by omega)]; exact q2, by rw [tset_lt (by omega)]; exact q3⟩
      · rw [u1, u2, v2, upd_at, upd_at, upd_at]
        by_cases ei : i = P
        · rw [if_pos ei, if_pos ei, ei, tset_at, tset_at, hg]; exact ⟨rfl, rfl⟩
        · rw [if_neg ei, if_neg ei, if_neg ei, tset_lt (by omega), tset_lt (by omega), f2.2 24 (by decide)]
          have hg2 : gw r (a i) (b i) (m + 1) = gw r (a i) (b i) m := by
            rw [gw_s, if_neg]
            rintro ⟨q1, q2, -⟩
            exact hno i (by omega) ⟨q1.symm, q2.symm⟩
          rw [hg2]
          exact h5 i (by omega)
  · rw [if_pos (nI_le (by omega) (by omega))]
    have : m = R - 1 := by omega
    subst this
    exact ⟨σ1, P, a, b, rfl, hT, f1⟩
