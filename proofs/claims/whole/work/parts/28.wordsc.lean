/-! best words: the class -/
def enc (x : Nat) : Int32 := if x = 100 then -2 else nI x
theorem enc_lt {x : Nat} (h : x < 100) : enc x = nI x := by unfold enc; rw [if_neg (by omega)]
theorem enc_eq {x y : Nat} (hx : x ≤ 100) (hy : y < 100) : enc x = nI y ↔ x = y := by
  unfold enc
  by_cases h : x = 100
  · rw [if_pos h]
    constructor
    · intro q; exact absurd q.symm (nI_m2 (by omega))
    · intro q; omega
  · rw [if_neg h, nI_eq (by omega) (by omega)]
/-- the class's trees: numbers by place (0: gone), the place of each sign's tree (100: none), widths -/
def Cst (σ : SS) (T : Nat) (N ow wd : Nat → Nat) : Prop := σ.1 7 = nI T ∧ T ≤ 32 ∧ (∀ i, i < T → σ.2 11 i = nI (N i) ∧ N i < 2 ^ 30) ∧ ∀ s, s < 16 → σ.2 12 s = enc (ow s) ∧ ow s ≤ 100 ∧ σ.2 10 s = nI (wd s)
def owT (ow : Nat → Nat) (x T : Nat) : Nat → Nat := fun s => if ow s = x then T else ow s
def wdT (ow wd : Nat → Nat) (x : Nat) : Nat → Nat := fun s => if ow s = x then wd s + 1 else wd s
theorem widenTree_c {σ : SS} {T x : Nat} {N ow wd : Nat → Nat} (h : Cst σ T N ow wd) (hx : x < 100) :
    ∃ σ', f_c_X10_widenTree σ (nI x) = some ((), σ') ∧ Cst σ' T N (owT ow x T) (wdT ow wd x) ∧ fr [] [10, 12] σ σ' := by
  obtain ⟨h7, hT, hN, ho⟩ := h
  unfold f_c_X10_widenTree
  refine L2_rule (I := fun k σ1 x1 x2 => ∃ i, i + k = 16 ∧ x1 = nI x ∧ x2 = nI i ∧ fr [] [10, 12] σ σ1 ∧ ∀ s, s < 16 → σ1.2 12 s = enc (if s < i then owT ow x T s else ow s) ∧ σ1.2 10 s = nI (if s < i then wdT ow wd x s else wd s)) (O := fun o => ∃ σ', o = some ((), σ') ∧ Cst σ' T N (owT ow x T) (wdT ow wd x) ∧ fr [] [10, 12] σ σ') ?_ FUEL 16 σ _ _ (by decide) ⟨0, rfl, rfl, i_0, fr.rf σ, fun s hs => by rw [if_neg (Nat.not_lt_zero s), if_neg (Nat.not_lt_zero s)]; exact ⟨(ho s hs).1, (ho s hs).2.2⟩⟩
  rintro g k σ1 x1 x2 ⟨i, hi, rfl, rfl, f1, hv⟩ ih
  unfold f_c_X10_widenTree_2
  by_cases q : i < 16
  · have h9 := hv i q
    rw [if_neg (Nat.lt_irrefl i), if_neg (Nat.lt_irrefl i)] at h9
    have hoi := (ho i q).2.1
    rw [i_16, if_neg (fun z => nI_ge q (by decide) z), gd_nI q (by decide), nI_clamp (by omega), h9.1, nI_1]
    by_cases e : ow i = x
    · rw [if_pos ((enc_eq hoi hx).mpr e), gd_nI q (by decide), gd_nI q (by decide), gd_nI q (by decide), f1.1 7 (by decide), h7]
      rw [show (putA σ1 12 i (nI T)).2 10 i = nI (wd i) from h9.2, nI_1]
      refine ih (k - 1) _ _ _ (by omega) ⟨i + 1, by omega, rfl, rfl, (f1.pA (by decide)).pA (by decide), fun s hs => ?_⟩
      show upd (σ1.2 12) _ _ s = _ ∧ upd (σ1.2 10) _ _ s = _
      rw [upd_at, upd_at]
      by_cases z : s = i
      · rw [if_pos z, if_pos z, if_pos (by omega), if_pos (by omega), z]
        unfold owT wdT
        rw [if_pos e, if_pos e, enc_lt (by omega)]
        exact ⟨rfl, rfl⟩
      · rw [if_neg z, if_neg z]
        have h8 := hv s hs
        by_cases y : s < i
        · rw [if_pos y, if_pos y] at h8
          rw [if_pos (by omega), if_pos (by omega)]; exact h8
        · rw [if_neg y, if_neg y] at h8
          rw [if_neg (by omega), if_neg (by omega)]; exact h8
    · rw [if_neg (fun z => e ((enc_eq hoi hx).mp z))]
      refine ih (k - 1) _ _ _ (by omega) ⟨i + 1, by omega, rfl, rfl, f1, fun s hs => ?_⟩
      have h8 := hv s hs
      by_cases z : s = i
      · subst z
        rw [if_pos (by omega), if_pos (by omega)]
        unfold owT wdT
        rw [if_neg e, if_neg e]; exact h9
      · by_cases y : s < i
        · rw [if_pos y, if_pos y] at h8
          rw [if_pos (by omega), if_pos (by omega)]; exact h8
        · rw [if_neg y, if_neg y] at h8
          rw [if_neg (by omega), if_neg (by omega)]; exact h8
  · have : i = 16 := by omega
    subst this
    rw [i_16, if_pos (nI_le (Nat.le_refl _) (by decide))]
    refine ⟨σ1, rfl, ⟨by rw [f1.1 7 (by decide)]; exact h7, hT, fun i hi => by rw [f1.2 11 (by decide)]; exact hN i hi, fun s hs => ?_⟩, f1⟩
    have h8 := hv s hs
    rw [if_pos hs, if_pos hs] at h8
    refine ⟨h8.1, ?_, h8.2⟩
    unfold owT
    by_cases e : ow s = x
    · rw [if_pos e]; omega
    · rw [if_neg e]; exact (ho s hs).2.1
/-- the first least number that isn't 0 -/
def IsMn (N : Nat → Nat) (T x : Nat) : Prop := x < T ∧ 0 < N x ∧ ∀ j, j < T → 0 < N j → N x ≤ N j ∧ (j < x → N x < N j)
theorem takeLeast_c {σ : SS} {T : Nat} {N ow wd : Nat → Nat} (h : Cst σ T N ow wd) (hl : ∃ j, j < T ∧ 0 < N j) :
    ∃ x σ', IsMn N T x ∧ f_c_X10_takeLeastTree σ = some (nI (N x), σ') ∧ Cst σ' T (tset N x 0) (owT ow x T) (wdT ow wd x) ∧ fr [] [10, 11, 12] σ σ' := by
  obtain ⟨j0, hj0, hp0⟩ := hl
  have h' := h
  obtain ⟨h7, hT, hN, ho⟩ := h
  unfold f_c_X10_takeLeastTree
  refine L2_rule (I := fun k σ1 x1 x2 => ∃ i b, i + k = T ∧ b < i ∧ x1 = nI b ∧ x2 = nI i ∧ σ1 = σ ∧ ((0 < N b ∧ ∀ j, j < i → 0 < N j → N b ≤ N j ∧ (j < b → N b < N j)) ∨ (N b = 0 ∧ ∀ j, j < i → N j = 0))) (O := fun o => ∃ x σ', IsMn N T x ∧ o = some (nI (N x), σ') ∧ Cst σ' T (tset N x 0) (owT ow x T) (wdT ow wd x) ∧ fr [] [10, 11, 12] σ σ') ?_ FUEL (T - 1) σ _ _ (by unfold FUEL; omega) ⟨1, 0, by omega, by omega, i_0, i_1, rfl, ?_⟩
  · rintro g k σ1 x1 x2 ⟨i, b, hi, hb, rfl, rfl, rfl, hv⟩ ih
    unfold f_c_X10_takeLeastTree_4
    rw [h7]
    by_cases q : i < T
    · have nb := hN b (by omega)
      have ni := hN i q
      have keep : (N i = 0 ∨ (0 < N b ∧ N b ≤ N i)) → g σ1 (nI b) (nI (i + 1)) = g σ1 (nI b) (nI (i + 1)) ∧ ∃ x σ', IsMn N T x ∧ g σ1 (nI b) (nI (i + 1)) = some (nI (N x), σ') ∧ Cst σ' T (tset N x 0) (owT ow x T) (wdT ow wd x) ∧ fr [] [10, 11, 12] σ1 σ' := by
        intro hc
        refine ⟨rfl, ih (k - 1) _ _ _ (by omega) ⟨i + 1, b, by omega, by omega, rfl, rfl, rfl, ?_⟩⟩
        rcases hv with ⟨v1, v2⟩ | ⟨v1, v2⟩
        · refine Or.inl ⟨v1, fun j hj hp => ?_⟩
          by_cases z : j = i
          · subst z
            rcases hc with c | ⟨-, c⟩
            · omega
            · exact ⟨c, fun y => by omega⟩
          · exact v2 j (by omega) hp
        · refine Or.inr ⟨v1, fun j hj => ?_⟩
          by_cases z : j = i
          · subst z
            rcases hc with c | ⟨c, -⟩
            · exact c
            · omega
          · exact v2 j (by omega)
      have take : 0 < N i → (N b = 0 ∨ N i < N b) → ∃ x σ', IsMn N T x ∧ g σ1 (nI i) (nI (i + 1)) = some (nI (N x), σ') ∧ Cst σ' T (tset N x 0) (owT ow x T) (wdT ow wd x) ∧ fr [] [10, 11, 12] σ1 σ' := by
        intro hp hc
        refine ih (k - 1) _ _ _ (by omega) ⟨i + 1, i, by omega, by omega, rfl, rfl, rfl, Or.inl ⟨hp, fun j hj hq => ?_⟩⟩
        by_cases z : j = i
        · subst z; exact ⟨Nat.le_refl _, fun y => absurd y (Nat.lt_irrefl _)⟩
        · rcases hv with ⟨v1, v2⟩ | ⟨v1, v2⟩
          · have h9 := v2 j (by omega) hq
            exact ⟨by omega, fun _ => by omega⟩
          · have h9 := v2 j (by omega)
            omega
      rw [if_neg (fun z => nI_ge q (by omega) z), gd_nI (show b < 32 by omega) (by decide), nI_clamp (by omega), nb.1]
      -- both tests behind each other
      have main : ∀ y0 : Int32, ((N b = 0 ∧ y0 = 1) ∨ (0 < N b ∧ y0 = 0)) → ∃ x σ', IsMn N T x ∧ f_c_X10_takeLeastTree_26 g σ1 (nI b) (nI i) y0 = some (nI (N x), σ') ∧ Cst σ' T (tset N x 0) (owT ow x T) (wdT ow wd x) ∧ fr [] [10, 11, 12] σ1 σ' := by
        intro y0 hy
        unfold f_c_X10_takeLeastTree_26
        rw [gd_nI (show i < 32 by omega) (by decide), gd_nI (show b < 32 by omega) (by decide), nI_clamp (by omega), nI_clamp (by omega), nb.1, ni.1]
        have t47 : ∀ y1 : Int32, ((N b ≤ N i ∧ y1 = 0) ∨ (N i < N b ∧ y1 = 1)) → ∃ x σ', IsMn N T x ∧ f_c_X10_takeLeastTree_47 g σ1 (nI b) (nI i) y0 y1 = some (nI (N x), σ') ∧ Cst σ' T (tset N x 0) (owT ow x T) (wdT ow wd x) ∧ fr [] [10, 11, 12] σ1 σ' := by
          intro y1 hy1
          unfold f_c_X10_takeLeastTree_47
          rw [gd_nI (show i < 32 by omega) (by decide), nI_clamp (by omega), ni.1, nI_1, i_0]
          by_cases p : 0 < N i
          · rw [if_neg (fun z => nI_ge p (by omega) z), ← i_0]
            rcases hy with ⟨a1, a2⟩ | ⟨a1, a2⟩
            · rw [if_neg (by rw [a2]; decide)]
              exact take p (Or.inl a1)
            · rw [if_pos a2]
              rcases hy1 with ⟨c1, c2⟩ | ⟨c1, c2⟩
              · rw [if_pos c2]
                exact (keep (Or.inr ⟨a1, c1⟩)).2
              · rw [if_neg (by rw [c2]; decide)]
                exact take p (Or.inr c1)
          · rw [if_pos (nI_le (by omega) (by decide))]
            exact (keep (Or.inl (by omega))).2
        by_cases e : N b ≤ N i
        · rw [if_pos (nI_le e (by omega))]; exact t47 0 (Or.inl ⟨e, rfl⟩)
        · rw [if_neg (fun z => e ((nI_leI (by omega) (by omega)).mp z))]; exact t47 1 (Or.inr ⟨by omega, rfl⟩)
      by_cases e : N b = 0
      · rw [if_pos (by rw [e, ← i_0])]; exact main 1 (Or.inl ⟨e, rfl⟩)
      · rw [if_neg (by rw [i_0]; exact fun z => e ((nI_eq (by omega) (by decide)).mp z))]; exact main 0 (Or.inr ⟨by omega, rfl⟩)
    · have hiT : i = T := by omega
      subst hiT
      rw [if_pos (nI_le (Nat.le_refl _) (by omega)), gd_nI (show b < 32 by omega) (by decide), gd_nI (show b < 32 by omega) (by decide), nI_clamp (by omega), (hN b hb).1]
      have hmn : IsMn N i b := by
        rcases hv with ⟨v1, v2⟩ | ⟨v1, v2⟩
        · exact ⟨hb, v1, v2⟩
        · have := v2 j0 hj0; omega
      have hC : Cst (putA σ1 11 b 0) i (tset N b 0) ow wd := by
        refine ⟨h7, hT, fun j hj => ?_, ho⟩
        show upd (σ1.2 11) b 0 j = _ ∧ _
        rw [upd_at]
        unfold tset
        by_cases z : j = b
        · rw [if_pos z, if_pos z]; exact ⟨i_0, by decide⟩
        · rw [if_neg z, if_neg z]; exact hN j hj
      obtain ⟨σ2, e2, c2, f2⟩ := widenTree_c hC (show b < 100 by omega)
      rw [e2, bd_s]
      exact ⟨b, σ2, hmn, rfl, c2, fr.tr ((fr.rf σ1).pA (by decide)) (f2.up (by decide) (by decide))⟩
  · by_cases z : N 0 = 0
    · exact Or.inr ⟨z, fun j hj => by
        have : j = 0 := by omega
        rw [this]; exact z⟩
    · exact Or.inl ⟨by omega, fun j hj _ => by
        have : j = 0 := by omega
        subst this
        exact ⟨Nat.le_refl _, fun y => absurd y (Nat.lt_irrefl _)⟩⟩
/-- the class's trees and the trees as numbers and masks -/
def Sim (T : Nat) (N ow : Nat → Nat) (L : Nat) (fn fm : Nat → Nat) : Prop := ∃ id : Nat → Nat, (∀ j, j < L → id j < T ∧ 0 < N (id j) ∧ fn j = N (id j) ∧ ∀ s, s < 16 → ((fm j).testBit s = true ↔ ow s = id j)) ∧ (∀ i j, i < j → j < L → id i < id j) ∧ ∀ x, x < T → 0 < N x → ∃ j, j < L ∧ id j = x
theorem Sim.take {T L x k : Nat} {N ow fn fm : Nat → Nat} (h : Sim T N ow (L + 1) fn fm) (hx : IsMn N T x) (hk : IsLm fn (L + 1) k) :
    N x = fn k ∧ (∀ s, s < 16 → ((fm k).testBit s = true ↔ ow s = x)) ∧ Sim T (tset N x 0) (owT ow x T) L (del fn k) (del fm k) := by
  obtain ⟨id, h1, h2, h3⟩ := h
  have hxk : id k = x := by
    obtain ⟨j, hj, rfl⟩ := h3 x hx.1 hx.2.1
    have a1 := hk.2 j hj
    have a2 := hx.2.2 (id k) (h1 k hk.1).1 (h1 k hk.1).2.1
    have e1 := (h1 k hk.1).2.2.1
    have e2 := (h1 j hj).2.2.1
    rcases Nat.lt_trichotomy j k with z | z | z
    · have := a1.2 z; omega
    · rw [z]
    · have := a2.2 (h2 k j z hj); omega
  have hne : ∀ j, j < L → del id k j ≠ x ∧ del id k j < T := by
    intro j hj
    unfold del
    by_cases z : j < k
    · rw [if_pos z]
      have := h2 j k z hk.1
      exact ⟨by omega, (h1 j (by omega)).1⟩
    · rw [if_neg z]
      have := h2 k (j + 1) (by omega) (by omega)
      exact ⟨by omega, (h1 (j + 1) (by omega)).1⟩
  refine ⟨by rw [← hxk]; exact ((h1 k hk.1).2.2.1).symm, fun s hs => by rw [← hxk]; exact (h1 k hk.1).2.2.2 s hs, del id k, fun j hj => ?_, fun i j hij hj => ?_, fun y hy hp => ?_⟩
  · have hn := hne j hj
    have hb : 0 < N (del id k j) ∧ del fn k j = N (del id k j) ∧ ∀ s, s < 16 → ((del fm k j).testBit s = true ↔ ow s = del id k j) := by
      unfold del
      by_cases z : j < k
      · rw [if_pos z, if_pos z, if_pos z]; exact (h1 j (by omega)).2
      · rw [if_neg z, if_neg z, if_neg z]; exact (h1 (j + 1) (by omega)).2
    refine ⟨hn.2, ?_, ?_, fun s hs => ?_⟩
    · unfold tset; rw [if_neg hn.1]; exact hb.1
    · unfold tset; rw [if_neg hn.1]; exact hb.2.1
    · rw [hb.2.2 s hs]
      unfold owT
      by_cases e : ow s = x
      · rw [if_pos e]
        constructor
        · intro q; exact absurd (q.symm.trans e) hn.1
        · intro q; omega
      · rw [if_neg e]
  · unfold del
    by_cases z : i < k
    · rw [if_pos z]
      by_cases y : j < k
      · rw [if_pos y]; exact h2 i j hij (by omega)
      · rw [if_neg y]; exact h2 i (j + 1) (by omega) (by omega)
    · rw [if_neg z, if_neg (by omega)]; exact h2 (i + 1) (j + 1) (by omega) (by omega)
  · have hyx : y ≠ x := fun z => by
      rw [z] at hp
      unfold tset at hp
      rw [if_pos rfl] at hp
      exact absurd hp (Nat.lt_irrefl 0)
    unfold tset at hp
    rw [if_neg hyx] at hp
    obtain ⟨j, hj, e⟩ := h3 y hy hp
    have hjk : j ≠ k := fun z => hyx (by rw [← e, z, hxk])
    unfold del
    by_cases z : j < k
    · exact ⟨j, by have := hk.1; omega, by rw [if_pos z]; exact e⟩
    · exact ⟨j - 1, by omega, by rw [if_neg (by omega), show j - 1 + 1 = j by omega]; exact e⟩
