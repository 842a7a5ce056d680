/-! best words: the class's whole walk; width, bits -/
theorem IsLm_ex (f : Nat → Nat) : ∀ L, 0 < L → ∃ k, IsLm f L k := by
  intro L
  induction L with
  | zero => intro h; exact absurd h (Nat.lt_irrefl 0)
  | succ L ih =>
    intro _
    by_cases h : 0 < L
    · obtain ⟨k, hk⟩ := ih h
      by_cases e : f k ≤ f L
      · refine ⟨k, by have := hk.1; omega, fun j hj => ?_⟩
        by_cases z : j = L
        · rw [z]; exact ⟨e, fun y => by have := hk.1; omega⟩
        · exact hk.2 j (by omega)
      · refine ⟨L, by omega, fun j hj => ?_⟩
        by_cases z : j = L
        · rw [z]; exact ⟨Nat.le_refl _, fun y => absurd y (Nat.lt_irrefl _)⟩
        · have h9 := hk.2 j (by omega)
          exact ⟨by omega, fun _ => by omega⟩
    · refine ⟨0, by omega, fun j hj => ?_⟩
      have : j = 0 := by omega
      rw [this]; exact ⟨Nat.le_refl _, fun y => absurd y (Nat.lt_irrefl _)⟩
theorem Sim.live {T L : Nat} {N ow fn fm : Nat → Nat} (h : Sim T N ow (L + 1) fn fm) : ∃ j, j < T ∧ 0 < N j := by
  obtain ⟨id, h1, -, -⟩ := h
  exact ⟨id 0, (h1 0 (by omega)).1, (h1 0 (by omega)).2.1⟩
theorem Cst.wd {σ : SS} {T : Nat} {N ow wd wd' : Nat → Nat} (h : Cst σ T N ow wd) (e : ∀ s, s < 16 → wd s = wd' s) : Cst σ T N ow wd' := ⟨h.1, h.2.1, h.2.2.1, fun s hs => by rw [← e s hs]; exact h.2.2.2 s hs⟩
theorem joins_c : ∀ (J : Nat) (σ : SS) (T : Nat) (N ow wd fn fm : Nat → Nat) (B : Nat), Cst σ T N ow wd → Sim T N ow (J + 1) fn fm → (∀ s, s < 16 → ow s < T ∨ ow s = 100) → T + J ≤ 32 → B * 2 ^ J ≤ 2 ^ 29 → (∀ j, j < T → N j ≤ B) → ∀ F, J < F →
    ∃ σ' wd', L1 f_c_X10_follow_45 F σ (nI J) = some ((), σ') ∧ WR (J + 1) fn fm wd wd' ∧ (∀ s, s < 16 → σ'.2 10 s = nI (wd' s)) ∧ fr [7] [10, 11, 12] σ σ' := by
  intro J
  induction J with
  | zero =>
    intro σ T N ow wd fn fm B h hs ho hT hB hN F hF
    obtain ⟨F', rfl⟩ : ∃ F', F = F' + 1 := ⟨F - 1, by omega⟩
    show ∃ σ' wd', f_c_X10_follow_45 (L1 f_c_X10_follow_45 F') σ (nI 0) = some ((), σ') ∧ _
    unfold f_c_X10_follow_45
    rw [i_0, if_pos (nI_le (Nat.le_refl _) (by decide))]
    exact ⟨σ, wd, rfl, Or.inl ⟨rfl, fun s _ => rfl⟩, fun s hs => (h.2.2.2 s hs).2.2, fr.rf σ⟩
  | succ J ih =>
    intro σ T N ow wd fn fm B h hs ho hT hB hN F hF
    obtain ⟨F', rfl⟩ : ∃ F', F = F' + 1 := ⟨F - 1, by omega⟩
    show ∃ σ' wd', f_c_X10_follow_45 (L1 f_c_X10_follow_45 F') σ (nI (J + 1)) = some ((), σ') ∧ _
    obtain ⟨x1, σ1, m1, e1, c1, f1⟩ := takeLeast_c h hs.live
    obtain ⟨k1, q1⟩ := IsLm_ex fn (J + 1 + 1) (by omega)
    obtain ⟨n1, b1, s1⟩ := hs.take m1 q1
    obtain ⟨x2, σ2, m2, e2, c2, f2⟩ := takeLeast_c c1 s1.live
    obtain ⟨k2, q2⟩ := IsLm_ex (del fn k1) (J + 1) (by omega)
    obtain ⟨n2, b2, s2⟩ := s1.take m2 q2
    have hx1 := m1.1
    have hx2 := m2.1
    have bx1 := hN x1 hx1
    have bx2 : tset N x1 0 x2 ≤ B := by
      unfold tset
      by_cases z : x2 = x1
      · rw [if_pos z]; exact Nat.zero_le _
      · rw [if_neg z]; exact hN x2 hx2
    have hB2 : 2 * B * 2 ^ J ≤ 2 ^ 29 := by
      have e9 : B * 2 ^ (J + 1) = 2 * B * 2 ^ J := by rw [Nat.pow_succ 2 J, Nat.mul_comm 2 B, Nat.mul_assoc, Nat.mul_comm 2 (2 ^ J)]
      omega
    have hB3 : 2 * B ≤ 2 ^ 29 := Nat.le_trans (Nat.le_mul_of_pos_right _ (Nat.pow_pos (by decide))) hB2
    generalize hg : L1 f_c_X10_follow_45 F' = g
    unfold f_c_X10_follow_45 f_c_X10_joinTwoTrees
    rw [i_0, if_neg (fun z => nI_ge (show 0 < J + 1 by omega) (by omega) z), e1, bd_s, e2, bd_s, c2.1, gd_nI (show T < 32 by omega) (by decide), bd_s, nI_clamp (by omega), nI_add, pk_m1]
    rw [show (putA σ2 11 T (nI (N x1 + tset N x1 0 x2))).1 7 = nI T from c2.1, nI_1]
    -- the new state
    have hc3 : Cst (putI (putA σ2 11 T (nI (N x1 + tset N x1 0 x2))) 7 (nI (T + 1))) (T + 1) (tset (tset (tset N x1 0) x2 0) T (N x1 + tset N x1 0 x2)) (owT (owT ow x1 T) x2 T) (wdT (owT ow x1 T) (wdT ow wd x1) x2) := by
      refine ⟨rfl, by omega, fun i hi => ?_, c2.2.2.2⟩
      show upd (σ2.2 11) T _ i = _ ∧ _
      rw [upd_at]
      by_cases z : i = T
      · rw [if_pos z]
        have e9 : tset (tset (tset N x1 0) x2 0) T (N x1 + tset N x1 0 x2) i = N x1 + tset N x1 0 x2 := by rw [z, tset_at]
        rw [e9]; exact ⟨rfl, by omega⟩
      · rw [if_neg z]
        have e9 : tset (tset (tset N x1 0) x2 0) T (N x1 + tset N x1 0 x2) i = tset (tset N x1 0) x2 0 i := tset_lt (by omega)
        rw [e9]; exact c2.2.2.1 i (by omega)
    have hwd : ∀ s, s < 16 → wdT (owT ow x1 T) (wdT ow wd x1) x2 s = wd s + bit (fm k1 ||| del fm k1 k2) s := by
      intro s hs'
      rw [bit_tb, Nat.testBit_or]
      have a1 := b1 s hs'
      have a2 := b2 s hs'
      by_cases z1 : ow s = x1
      · have t1 : (fm k1).testBit s = true := a1.mpr z1
        have z2 : ¬ owT ow x1 T s = x2 := by unfold owT; rw [if_pos z1]; omega
        have e9 : wdT (owT ow x1 T) (wdT ow wd x1) x2 s = wd s + 1 := by
          unfold wdT; rw [if_neg z2, if_pos z1]
        rw [e9, t1]; rfl
      · have t1 : (fm k1).testBit s = false := by
          cases hh : (fm k1).testBit s
          · rfl
          · exact absurd (a1.mp hh) z1
        have e8 : wdT ow wd x1 s = wd s := by unfold wdT; rw [if_neg z1]
        by_cases z2 : owT ow x1 T s = x2
        · have t2 : (del fm k1 k2).testBit s = true := a2.mpr z2
          have e9 : wdT (owT ow x1 T) (wdT ow wd x1) x2 s = wd s + 1 := by
            unfold wdT at e8 ⊢; rw [if_pos z2, e8]
          rw [e9, t1, t2]; rfl
        · have t2 : (del fm k1 k2).testBit s = false := by
            cases hh : (del fm k1 k2).testBit s
            · rfl
            · exact absurd (a2.mp hh) z2
          have e9 : wdT (owT ow x1 T) (wdT ow wd x1) x2 s = wd s := by
            unfold wdT at e8 ⊢; rw [if_neg z2, e8]
          rw [e9, t1, t2]; rfl
    have hs3 : Sim (T + 1) (tset (tset (tset N x1 0) x2 0) T (N x1 + tset N x1 0 x2)) (owT (owT ow x1 T) x2 T) (J + 1) (pl (del (del fn k1) k2) (J + 1 - 1) (fn k1 + del fn k1 k2)) (pl (del (del fm k1) k2) (J + 1 - 1) (fm k1 ||| del fm k1 k2)) := by
      obtain ⟨id, i1, i2, i3⟩ := s2
      refine ⟨pl id J T, fun j hj => ?_, fun i j hij hj => ?_, fun y hy hp => ?_⟩
      · unfold pl
        by_cases z : j < J
        · rw [if_pos z, if_pos (show j < J + 1 - 1 by omega), if_pos (show j < J + 1 - 1 by omega)]
          obtain ⟨g1, g2, g3, g4⟩ := i1 j z
          have e9 : tset (tset (tset N x1 0) x2 0) T (N x1 + tset N x1 0 x2) (id j) = tset (tset N x1 0) x2 0 (id j) := tset_lt g1
          rw [e9]
          exact ⟨by omega, g2, g3, g4⟩
        · rw [if_neg z, if_neg (show ¬ j < J + 1 - 1 by omega), if_neg (show ¬ j < J + 1 - 1 by omega), tset_at]
          refine ⟨by omega, by have := m1.2.1; omega, by rw [n1, n2], fun s hs' => ?_⟩
          rw [Nat.testBit_or, Bool.or_eq_true, b1 s hs', b2 s hs']
          have hos := ho s hs'
          unfold owT
          by_cases z1 : ow s = x1
          · rw [if_pos z1]
            rw [if_neg (show ¬ T = x2 by omega)]
            exact ⟨fun _ => rfl, fun _ => Or.inl z1⟩
          · rw [if_neg z1]
            by_cases z2 : ow s = x2
            · rw [if_pos z2]; exact ⟨fun _ => rfl, fun _ => Or.inr z2⟩
            · rw [if_neg z2]
              constructor
              · rintro (q | q)
                · exact absurd q z1
                · exact absurd q z2
              · intro q; omega
      · unfold pl
        rw [if_pos (show i < J by omega)]
        by_cases z : j < J
        · rw [if_pos z]; exact i2 i j hij z
        · rw [if_neg z]; exact (i1 i (by omega)).1
      · by_cases z : y = T
        · exact ⟨J, by omega, by unfold pl; rw [if_neg (Nat.lt_irrefl J), z]⟩
        · rw [tset_lt (by omega)] at hp
          obtain ⟨j, hj, e⟩ := i3 y (by omega) hp
          exact ⟨j, by omega, by unfold pl; rw [if_pos hj]; exact e⟩
    obtain ⟨σ4, wd', e4, w4, v4, f4⟩ := ih _ (T + 1) _ _ _ _ _ (2 * B) (hc3.wd hwd) hs3 (fun s hs' => by
      have hos := ho s hs'
      unfold owT
      by_cases z1 : ow s = x1
      · rw [if_pos z1, if_neg (show ¬ T = x2 by omega)]; exact Or.inl (by omega)
      · rw [if_neg z1]
        by_cases z2 : ow s = x2
        · rw [if_pos z2]; exact Or.inl (by omega)
        · rw [if_neg z2]; omega) (by omega) hB2 (fun j hj => by
      by_cases z : j = T
      · rw [z, tset_at]; omega
      · rw [tset_lt (by omega)]
        unfold tset
        by_cases y1 : j = x2
        · rw [if_pos y1]; exact Nat.zero_le _
        · rw [if_neg y1]
          by_cases y2 : j = x1
          · rw [if_pos y2]; exact Nat.zero_le _
          · rw [if_neg y2]
            have := hN j (by omega)
            omega) F' (by omega)
    rw [← hg, e4]
    exact ⟨σ4, wd', rfl, Or.inr ⟨by omega, k1, k2, q1, q2, w4⟩, v4, (((f1.up (by decide) (by decide)).tr (f2.up (by decide) (by decide))).tr (((fr.rf σ2).pA (by decide)).pI (by decide))).tr f4⟩
/-- where a sign's tree is planted -/
def owp (t : Nat → Nat) (n s : Nat) : Nat := if 0 < cnt t s n then L0w t n s else 100
theorem L0w_mono {t : Nat → Nat} {n s i : Nat} (h : s ≤ i) : L0w t n s ≤ L0w t n i := by
  induction i with
  | zero => have : s = 0 := by omega
            rw [this]; exact Nat.le_refl _
  | succ i ih =>
    by_cases e : s = i + 1
    · rw [e]; exact Nat.le_refl _
    · have := ih (by omega)
      rw [L0w_s]; split <;> omega
theorem m0w_bit {t : Nat → Nat} {n : Nat} : ∀ i j s, i ≤ 16 → j < L0w t n i → ((m0w t n i j).testBit s = true ↔ s < i ∧ owp t n s = j) := by
  intro i
  induction i with
  | zero => intro j s _ hj; exact absurd hj (Nat.not_lt_zero j)
  | succ i ih =>
    intro j s hi16 hj
    have hLi := L0w_le t n i
    rw [L0w_s] at hj
    rw [m0w_s]
    by_cases p : 0 < cnt t i n
    · rw [if_pos p] at hj
      rw [if_pos p]
      have hoi : owp t n i = L0w t n i := by unfold owp; rw [if_pos p]
      unfold pl
      by_cases z : j < L0w t n i
      · rw [if_pos z, ih j s (by omega) z]
        constructor
        · rintro ⟨a, b⟩; exact ⟨by omega, b⟩
        · rintro ⟨a, b⟩
          have : s ≠ i := fun y => by rw [y, hoi] at b; omega
          exact ⟨by omega, b⟩
      · rw [if_neg z, Nat.testBit_two_pow, decide_eq_true_eq]
        constructor
        · intro e; subst e; exact ⟨by omega, by rw [hoi]; omega⟩
        · rintro ⟨a, b⟩
          rcases Nat.lt_or_ge s i with y | y
          · exfalso
            unfold owp at b
            by_cases p2 : 0 < cnt t s n
            · rw [if_pos p2] at b
              have h9 := L0w_mono (t := t) (n := n) (show s + 1 ≤ i by omega)
              rw [L0w_s, if_pos p2] at h9
              omega
            · rw [if_neg p2] at b
              omega
          · omega
    · rw [if_neg p] at hj
      rw [if_neg p, ih j s (by omega) hj]
      constructor
      · rintro ⟨a, b⟩; exact ⟨by omega, b⟩
      · rintro ⟨a, b⟩
        have : s ≠ i := fun y => by
          rw [y] at b
          unfold owp at b
          rw [if_neg p] at b
          omega
        exact ⟨by omega, b⟩
theorem plant_c {σ : SS} {t : Nat → Nat} {n : Nat} (h : Tc σ t n) : ∃ σ', f_c_X10_plantTrees σ = some ((), σ') ∧ Cst σ' (L0w t n 16) (f0w t n 16) (owp t n) (fun _ => 0) ∧ fr [7] [10, 11, 12] σ σ' := by
  have hn := h.2.1
  unfold f_c_X10_plantTrees
  refine L1_rule (I := fun k σ1 x => ∃ i, i + k = 16 ∧ x = nI i ∧ fr [7] [10, 11, 12] σ σ1 ∧ σ1.1 7 = nI (L0w t n i) ∧ (∀ j, j < L0w t n i → σ1.2 11 j = nI (f0w t n i j)) ∧ ∀ s, s < i → σ1.2 12 s = enc (owp t n s) ∧ σ1.2 10 s = nI 0) (O := fun o => ∃ σ', o = some ((), σ') ∧ Cst σ' (L0w t n 16) (f0w t n 16) (owp t n) (fun _ => 0) ∧ fr [7] [10, 11, 12] σ σ') ?_ FUEL 16 (putI σ 7 0) 0 (by decide) ⟨0, rfl, i_0, (fr.rf σ).pI (by decide), i_0, fun j hj => absurd hj (Nat.not_lt_zero j), fun s hs => absurd hs (Nat.not_lt_zero s)⟩
  rintro g k σ1 x ⟨i, hi, rfl, f1, h7, hv, hz⟩ ih
  unfold f_c_X10_plantTrees_7
  by_cases q : i < 16
  · have hLi := L0w_le t n i
    have hc := cnt_le t i n
    have h1 : σ1.2 1 i = nI (cnt t i n) := by rw [f1.2 1 (by decide)]; exact h.2.2.2 i q
    rw [i_16, if_neg (fun z => nI_ge q (by decide) z), gd_nI q (by decide), gd_nI q (by decide), gd_nI q (by decide), nI_clamp (by omega)]
    rw [show (putA (putA σ1 10 i 0) 12 i (-2)).2 1 i = nI (cnt t i n) from h1, i_0]
    by_cases p : 0 < cnt t i n
    · rw [if_neg (fun z => nI_ge p (by omega) z), gd_nI q (by decide), gd_nI q (by decide)]
      rw [show (putA (putA (putA σ1 10 i (nI 0)) 12 i (-2)) 12 i ((putA (putA σ1 10 i (nI 0)) 12 i (-2)).1 7)).1 7 = nI (L0w t n i) from h7, show (putA (putA σ1 10 i (nI 0)) 12 i (-2)).1 7 = nI (L0w t n i) from h7, gd_nI (show L0w t n i < 32 by omega) (by decide), nI_clamp (by omega)]
      rw [show (putA (putA (putA σ1 10 i (nI 0)) 12 i (-2)) 12 i (nI (L0w t n i))).2 1 i = nI (cnt t i n) from h1]
      rw [show (putA (putA (putA (putA σ1 10 i (nI 0)) 12 i (-2)) 12 i (nI (L0w t n i))) 11 (L0w t n i) (nI (cnt t i n))).1 7 = nI (L0w t n i) from h7, nI_1, nI_1]
      refine ih (k - 1) _ _ (by omega) ⟨i + 1, by omega, rfl, ?_, ?_, fun j hj => ?_, fun s hs => ?_⟩
      · exact (((((f1.pA (by decide)).pA (by decide)).pA (by decide)).pA (by decide)).pI (by decide))
      · rw [L0w_s, if_pos p]; rfl
      · rw [L0w_s, if_pos p] at hj
        rw [f0w_s, if_pos p]
        show upd (σ1.2 11) _ _ j = _
        rw [upd_at]
        unfold pl
        by_cases z : j = L0w t n i
        · rw [if_pos z, if_neg (by omega)]
        · rw [if_neg z, if_pos (by omega)]; exact hv j (by omega)
      · show upd (upd (σ1.2 12) i (-2)) i (nI (L0w t n i)) s = _ ∧ upd (σ1.2 10) i (nI 0) s = _
        rw [upd_at, upd_at, upd_at]
        by_cases z : s = i
        · rw [if_pos z, if_pos z, z]
          refine ⟨?_, rfl⟩
          unfold owp
          rw [if_pos p, enc_lt (by omega)]
        · rw [if_neg z, if_neg z, if_neg z]; exact hz s (by omega)
    · rw [if_pos (nI_le (by omega) (by decide)), nI_1]
      refine ih (k - 1) _ _ (by omega) ⟨i + 1, by omega, rfl, (f1.pA (by decide)).pA (by decide), ?_, fun j hj => ?_, fun s hs => ?_⟩
      · rw [L0w_s, if_neg p]; exact h7
      · rw [L0w_s, if_neg p] at hj
        rw [f0w_s, if_neg p]; exact hv j hj
      · show upd (σ1.2 12) i (-2) s = _ ∧ upd (σ1.2 10) i (nI 0) s = _
        rw [upd_at, upd_at]
        by_cases z : s = i
        · rw [if_pos z, if_pos z, z]
          refine ⟨?_, rfl⟩
          unfold owp
          rw [if_neg p]; rfl
        · rw [if_neg z, if_neg z]; exact hz s (by omega)
  · have : i = 16 := by omega
    subst this
    rw [i_16, if_pos (nI_le (Nat.le_refl _) (by decide))]
    have hLw := L0w_le t n 16
    refine ⟨σ1, rfl, ⟨h7, by omega, fun j hj => ⟨hv j hj, ?_⟩, fun s hs => ⟨(hz s hs).1, ?_, (hz s hs).2⟩⟩, f1⟩
    · have := (f0w_bd (t := t) (n := n) 16 j (Nat.le_refl 16) hj).1
      omega
    · unfold owp
      have := L0w_le t n s
      split <;> omega
/-- the class's widths are right -/
def Wd (σ : SS) (t : Nat → Nat) (n : Nat) : Prop := ∃ wd, WT t n wd ∧ ∀ s, s < 16 → σ.2 10 s = nI (wd s)
theorem Wd.fr {I A : List Nat} {σ σ' : SS} {t : Nat → Nat} {n : Nat} (h : Wd σ t n) (f : fr I A σ σ') (h0 : 10 ∉ A) : Wd σ' t n := by
  obtain ⟨wd, h1, h2⟩ := h
  exact ⟨wd, h1, fun s hs => by rw [f.2 10 h0]; exact h2 s hs⟩
theorem follow_w {σ : SS} {t : Nat → Nat} {n : Nat} (h : Tc σ t n) (hs : σ.1 8 = σ.1 1 → Wd σ t n) :
    ∃ σ', f_c_X10_follow σ = some ((), σ') ∧ fr [7, 8] [10, 11, 12] σ σ' ∧ Wd σ' t n ∧ σ'.1 8 = σ.1 1 := by
  have hn := h.2.1
  unfold f_c_X10_follow
  by_cases q : σ.1 8 = σ.1 1
  · rw [if_pos q]
    exact ⟨σ, rfl, fr.rf σ, hs q, q⟩
  · rw [if_neg q]
    have f0 : fr [7, 8] [10, 11, 12] σ (putI σ 8 (σ.1 1)) := (fr.rf σ).pI (by decide)
    have f0' : fr [8] [] σ (putI σ 8 (σ.1 1)) := (fr.rf σ).pI (by decide)
    obtain ⟨σ1, e1, c1, f1⟩ := plant_c (h.fr f0' (by decide) (by decide) (by decide))
    have f01 := f0.tr (f1.up (I' := [7, 8]) (A' := [10, 11, 12]) (by decide) (by decide))
    have h8 : σ1.1 8 = σ.1 1 := by rw [f1.1 8 (by decide)]; rfl
    have hLw := L0w_le t n 16
    have hsim : Sim (L0w t n 16) (f0w t n 16) (owp t n) (L0w t n 16) (f0w t n 16) (m0w t n 16) := by
      refine ⟨fun j => j, fun j hj => ⟨hj, (f0w_bd (t := t) (n := n) 16 j (Nat.le_refl 16) hj).2.1, rfl, fun s hs' => ?_⟩, fun i j hij _ => hij, fun x hx _ => ⟨x, hx, rfl⟩⟩
      rw [m0w_bit 16 j s (Nat.le_refl 16) hj]
      exact ⟨fun z => z.2, fun z => ⟨hs', z⟩⟩
    rw [e1, bd_s, c1.1]
    unfold f_c_X10_follow_38
    by_cases e : L0w t n 16 = 1
    · rw [if_pos (by rw [e, ← i_1])]
      obtain ⟨σ2, e2, c2, f2⟩ := widenTree_c c1 (show 0 < 100 by decide)
      rw [← i_0] at e2
      rw [e2, bd_s, c2.1, e, nI_pred]
      obtain ⟨FF, hFF⟩ : ∃ FF, FUEL = FF + 1 := ⟨999, rfl⟩
      rw [hFF]
      show ∃ σ', f_c_X10_follow_45 (L1 f_c_X10_follow_45 FF) σ2 (nI 0) = some ((), σ') ∧ _
      unfold f_c_X10_follow_45
      rw [i_0, if_pos (nI_le (Nat.le_refl _) (by decide))]
      refine ⟨σ2, rfl, f01.tr (f2.up (by decide) (by decide)), ⟨_, Or.inl ⟨e, ?_⟩, fun s hs' => (c2.2.2.2 s hs').2.2⟩, by rw [f2.1 8 (by decide)]; exact h8⟩
      intro s hs'
      rw [bit_tb]
      unfold wdT
      by_cases z : owp t n s = 0
      · rw [if_pos z, if_pos ((m0w_bit 16 0 s (Nat.le_refl 16) (by omega)).mpr ⟨hs', z⟩)]
      · rw [if_neg z, if_neg (fun y => z ((m0w_bit 16 0 s (Nat.le_refl 16) (by omega)).mp y).2)]
    · rw [if_neg (by rw [i_1]; exact fun z => e ((nI_eq (by omega) (by decide)).mp z)), c1.1]
      by_cases e0 : L0w t n 16 = 0
      · obtain ⟨FF, hFF⟩ : ∃ FF, FUEL = FF + 1 := ⟨999, rfl⟩
        rw [hFF, e0]
        show ∃ σ', f_c_X10_follow_45 (L1 f_c_X10_follow_45 FF) σ1 (nI 0 - 1) = some ((), σ') ∧ _
        unfold f_c_X10_follow_45
        rw [if_pos (by decide)]
        refine ⟨σ1, rfl, f01, ⟨fun _ => 0, Or.inr ⟨e, ?_⟩, fun s hs' => (c1.2.2.2 s hs').2.2⟩, h8⟩
        rw [e0]
        exact fun s _ => rfl
      · obtain ⟨J, hJ⟩ : ∃ J, L0w t n 16 = J + 1 := ⟨L0w t n 16 - 1, by omega⟩
        rw [hJ, nI_pred]
        have hp : 2 ^ J ≤ 2 ^ 16 := Nat.pow_le_pow_right (by decide) (by omega)
        obtain ⟨σ2, wd', e2, w2, v2, f2⟩ := joins_c J σ1 (L0w t n 16) _ _ _ (f0w t n 16) (m0w t n 16) 400 c1 (by rw [← hJ]; exact hsim) (fun s hs' => by
          unfold owp
          by_cases p : 0 < cnt t s n
          · rw [if_pos p]
            have h9 := L0w_mono (t := t) (n := n) (show s + 1 ≤ 16 by omega)
            rw [L0w_s, if_pos p] at h9
            exact Or.inl (by omega)
          · rw [if_neg p]; exact Or.inr rfl) (by omega) (by omega) (fun j hj => by
          have := (f0w_bd (t := t) (n := n) 16 j (Nat.le_refl 16) hj).1
          omega) FUEL (by unfold FUEL; omega)
        rw [e2]
        refine ⟨σ2, rfl, f01.tr (f2.up (by decide) (by decide)), ⟨wd', Or.inr ⟨e, by rw [hJ]; exact w2⟩, v2⟩, by rw [f2.1 8 (by decide)]; exact h8⟩
