/-! best words: trees -/
/-- the first least of L numbers -/
def IsLm (f : Nat → Nat) (L k : Nat) : Prop := k < L ∧ ∀ j, j < L → f k ≤ f j ∧ (j < k → f k < f j)
theorem IsLm_eq {f : Nat → Nat} {L k k' : Nat} (h : IsLm f L k) (h' : IsLm f L k') : k = k' := by
  rcases Nat.lt_trichotomy k k' with q | q | q
  · have a := (h'.2 k h.1).2 q
    have b := (h.2 k' h'.1).1
    omega
  · exact q
  · have a := (h.2 k' h'.1).2 q
    have b := (h'.2 k h.1).1
    omega
/-- one taken out, one put behind -/
def del (f : Nat → Nat) (k : Nat) : Nat → Nat := fun i => if i < k then f i else f (i + 1)
def pl (f : Nat → Nat) (L x : Nat) : Nat → Nat := fun i => if i < L then f i else x
def bit (m s : Nat) : Nat := m / 2 ^ s % 2
theorem bit_le (m s : Nat) : bit m s ≤ 1 := by unfold bit; omega
theorem bit_tb (m s : Nat) : bit m s = if m.testBit s then 1 else 0 := by
  unfold bit
  rw [Nat.testBit_eq_decide_div_mod_eq]
  by_cases h : m / 2 ^ s % 2 = 1
  · rw [if_pos (by simpa using h)]; exact h
  · rw [if_neg (by simpa using h)]; omega
/-- what joining all trees does to the widths -/
def WR : Nat → (Nat → Nat) → (Nat → Nat) → (Nat → Nat) → (Nat → Nat) → Prop
  | 0, _, _, wd, wd' => ∀ s, s < 16 → wd' s = wd s
  | L + 1, fn, fm, wd, wd' => (L = 0 ∧ ∀ s, s < 16 → wd' s = wd s) ∨ (0 < L ∧ ∃ k1 k2, IsLm fn (L + 1) k1 ∧ IsLm (del fn k1) L k2 ∧
      WR L (pl (del (del fn k1) k2) (L - 1) (fn k1 + del fn k1 k2)) (pl (del (del fm k1) k2) (L - 1) (fm k1 ||| del fm k1 k2)) (fun s => wd s + bit (fm k1 ||| del fm k1 k2) s) wd')
theorem WR_eq : ∀ (L : Nat) (fn fm wd w1 w2 : Nat → Nat), WR L fn fm wd w1 → WR L fn fm wd w2 → ∀ s, s < 16 → w1 s = w2 s := by
  intro L
  induction L with
  | zero => intro fn fm wd w1 w2 h1 h2 s hs; rw [h1 s hs, h2 s hs]
  | succ L ih =>
    intro fn fm wd w1 w2 h1 h2 s hs
    rcases h1 with ⟨a0, a1⟩ | ⟨a0, k1, k2, a1, a2, a3⟩ <;> rcases h2 with ⟨b0, b1⟩ | ⟨b0, q1, q2, b1, b2, b3⟩
    · rw [a1 s hs, b1 s hs]
    · omega
    · omega
    · have e1 := IsLm_eq a1 b1
      subst e1
      have e2 := IsLm_eq a2 b2
      subst e2
      exact ih _ _ _ _ _ a3 b3 s hs
/-- the trees at first -/
def L0w (t : Nat → Nat) (n : Nat) : Nat → Nat
  | 0 => 0
  | s + 1 => if 0 < cnt t s n then L0w t n s + 1 else L0w t n s
def f0w (t : Nat → Nat) (n : Nat) : Nat → Nat → Nat
  | 0 => fun _ => 0
  | s + 1 => if 0 < cnt t s n then pl (f0w t n s) (L0w t n s) (cnt t s n) else f0w t n s
def m0w (t : Nat → Nat) (n : Nat) : Nat → Nat → Nat
  | 0 => fun _ => 0
  | s + 1 => if 0 < cnt t s n then pl (m0w t n s) (L0w t n s) (2 ^ s) else m0w t n s
theorem L0w_le (t : Nat → Nat) (n s : Nat) : L0w t n s ≤ s := by
  induction s with
  | zero => exact Nat.le_refl 0
  | succ s ih => unfold L0w; split <;> omega
def WT (t : Nat → Nat) (n : Nat) (wd : Nat → Nat) : Prop := (L0w t n 16 = 1 ∧ ∀ s, s < 16 → wd s = bit (m0w t n 16 0) s) ∨ (L0w t n 16 ≠ 1 ∧ WR (L0w t n 16) (f0w t n 16) (m0w t n 16) (fun _ => 0) wd)
theorem WT_eq {t : Nat → Nat} {n : Nat} {w1 w2 : Nat → Nat} (h1 : WT t n w1) (h2 : WT t n w2) : ∀ s, s < 16 → w1 s = w2 s := by
  intro s hs
  rcases h1 with ⟨a0, a1⟩ | ⟨a0, a1⟩ <;> rcases h2 with ⟨b0, b1⟩ | ⟨b0, b1⟩
  · rw [a1 s hs, b1 s hs]
  · exact absurd a0 b0
  · exact absurd b0 a0
  · exact WR_eq _ _ _ _ _ _ a1 b1 s hs
/-- the reference's trees -/
def Mst (τ : SS) (L : Nat) (fn fm wd : Nat → Nat) : Prop := τ.1 4 = nI L ∧ L ≤ 16 ∧ (∀ j, j < L → τ.2 5 j = nI (fn j) ∧ τ.2 6 j = nI (fm j) ∧ fn j < 2 ^ 30 ∧ fm j < 2 ^ 16) ∧ ∀ s, s < 16 → τ.2 7 s = nI (wd s)
theorem shift_m {τ : SS} {L k : Nat} {fn fm : Nat → Nat} (r : Int32) (hk : k ≤ L) (hL : L + 1 ≤ 16) (h4 : τ.1 4 = nI L) (ha : ∀ j, j < L + 1 → τ.2 5 j = nI (fn j) ∧ τ.2 6 j = nI (fm j)) :
    ∃ τ', L2 f_m_X12_takeLeast_68 FUEL τ r (nI k) = some (r, τ') ∧ fr [] [5, 6] τ τ' ∧ ∀ j, j < L → τ'.2 5 j = nI (del fn k j) ∧ τ'.2 6 j = nI (del fm k j) := by
  refine L2_rule (I := fun m τ1 x1 x2 => ∃ i, i + m = L ∧ k ≤ i ∧ x1 = r ∧ x2 = nI i ∧ fr [] [5, 6] τ τ1 ∧ ∀ j, j < L + 1 → τ1.2 5 j = nI (if j < i then del fn k j else fn j) ∧ τ1.2 6 j = nI (if j < i then del fm k j else fm j)) (O := fun o => ∃ τ', o = some (r, τ') ∧ fr [] [5, 6] τ τ' ∧ ∀ j, j < L → τ'.2 5 j = nI (del fn k j) ∧ τ'.2 6 j = nI (del fm k j)) ?_ FUEL (L - k) τ _ _ (by unfold FUEL; omega) ⟨k, by omega, Nat.le_refl k, rfl, rfl, fr.rf τ, fun j hj => ?_⟩
  · rintro g m τ1 x1 x2 ⟨i, hi, hki, rfl, rfl, f1, hv⟩ ih
    unfold f_m_X12_takeLeast_68
    rw [f1.1 4 (by decide), h4]
    by_cases q : i < L
    · rw [if_neg (fun z => nI_ge q (by omega) z), nI_1, gd_nI (show i + 1 < 16 by omega) (by decide), gd_nI (show i < 16 by omega) (by decide), gd_nI (show i + 1 < 16 by omega) (by decide), gd_nI (show i < 16 by omega) (by decide), nI_clamp (by omega), nI_clamp (by omega)]
      refine ih (m - 1) _ _ _ (by omega) ⟨i + 1, by omega, by omega, rfl, rfl, (f1.pA (by decide)).pA (by decide), fun j hj => ?_⟩
      show upd (τ1.2 5) _ _ j = _ ∧ upd (τ1.2 6) _ _ j = _
      rw [upd_at, upd_at]
      by_cases e : j = i
      · rw [if_pos e, if_pos e, if_pos (by omega), if_pos (by omega), e]
        have h9 := hv (i + 1) (by omega)
        rw [if_neg (by omega), if_neg (by omega)] at h9
        refine ⟨h9.1.trans ?_, h9.2.trans ?_⟩
        · congr 1; unfold del; rw [if_neg (by omega)]
        · congr 1; unfold del; rw [if_neg (by omega)]
      · rw [if_neg e, if_neg e]
        have h9 := hv j hj
        by_cases z : j < i
        · rw [if_pos z, if_pos z] at h9
          rw [if_pos (by omega), if_pos (by omega)]; exact h9
        · rw [if_neg z, if_neg z] at h9
          rw [if_neg (by omega), if_neg (by omega)]; exact h9
    · rw [if_pos (nI_le (by omega) (by omega))]
      refine ⟨τ1, rfl, f1, fun j hj => ?_⟩
      have h9 := hv j (by omega)
      rw [if_pos (by omega), if_pos (by omega)] at h9
      exact h9
  · have h9 := ha j hj
    by_cases z : j < k
    · rw [if_pos z, if_pos z]
      unfold del
      rw [if_pos z, if_pos z]; exact h9
    · rw [if_neg z, if_neg z]; exact h9
theorem takeLeast_m {τ : SS} {L : Nat} {fn fm wd : Nat → Nat} (h : Mst τ (L + 1) fn fm wd) :
    ∃ k τ', IsLm fn (L + 1) k ∧ f_m_X12_takeLeast τ = some (nI (fm k), τ') ∧ τ'.1 5 = nI (fn k) ∧ Mst τ' L (del fn k) (del fm k) wd ∧ fr [4, 5] [5, 6] τ τ' := by
  obtain ⟨h4, hL, ha, hw⟩ := h
  unfold f_m_X12_takeLeast
  refine L2_rule (I := fun m τ1 x1 x2 => ∃ i b, i + m = L + 1 ∧ b < i ∧ x1 = nI b ∧ x2 = nI i ∧ τ1 = τ ∧ ∀ j, j < i → fn b ≤ fn j ∧ (j < b → fn b < fn j)) (O := fun o => ∃ k τ', IsLm fn (L + 1) k ∧ o = some (nI (fm k), τ') ∧ τ'.1 5 = nI (fn k) ∧ Mst τ' L (del fn k) (del fm k) wd ∧ fr [4, 5] [5, 6] τ τ') ?_ FUEL L τ _ _ (by unfold FUEL; omega) ⟨1, 0, by omega, by omega, i_0, i_1, rfl, fun j hj => ?_⟩
  · rintro g m τ1 x1 x2 ⟨i, b, hi, hb, rfl, rfl, rfl, hv⟩ ih
    unfold f_m_X12_takeLeast_4
    rw [h4]
    by_cases q : i < L + 1
    · rw [if_neg (fun z => nI_ge q (by omega) z), gd_nI (show i < 16 by omega) (by decide), gd_nI (show b < 16 by omega) (by decide), nI_clamp (by omega), nI_clamp (by omega), (ha b (by omega)).1, (ha i q).1, nI_1]
      have hb1 := (ha b (by omega)).2.2.1
      have hb2 := (ha i q).2.2.1
      by_cases e : fn b ≤ fn i
      · rw [if_pos (nI_le e (by omega))]
        refine ih (m - 1) _ _ _ (by omega) ⟨i + 1, b, by omega, by omega, rfl, rfl, rfl, fun j hj => ?_⟩
        by_cases z : j = i
        · subst z; exact ⟨e, fun y => by omega⟩
        · exact hv j (by omega)
      · rw [if_neg (fun z => e ((nI_leI (by omega) (by omega)).mp z))]
        refine ih (m - 1) _ _ _ (by omega) ⟨i + 1, i, by omega, by omega, rfl, rfl, rfl, fun j hj => ?_⟩
        by_cases z : j = i
        · subst z; exact ⟨Nat.le_refl _, fun y => absurd y (Nat.lt_irrefl _)⟩
        · have h9 := hv j (by omega)
          exact ⟨by omega, fun _ => by omega⟩
    · have hi' : i = L + 1 := by omega
      subst hi'
      rw [if_pos (nI_le (Nat.le_refl _) (by omega)), gd_nI (show b < 16 by omega) (by decide), gd_nI (show b < 16 by omega) (by decide), nI_clamp (by omega)]
      rw [show (putI τ1 5 (τ1.2 5 b)).1 4 = nI (L + 1) from h4, nI_pred, show (putI τ1 5 (τ1.2 5 b)).2 6 b = nI (fm b) from (ha b (by omega)).2.1]
      obtain ⟨τ2, e2, f2, v2⟩ := shift_m (τ := putI (putI τ1 5 (τ1.2 5 b)) 4 (nI L)) (L := L) (k := b) (fn := fn) (fm := fm) (nI (fm b)) (by omega) hL rfl (fun j hj => ⟨(ha j hj).1, (ha j hj).2.1⟩)
      rw [e2]
      refine ⟨b, τ2, ⟨by omega, hv⟩, rfl, ?_, ⟨?_, by omega, fun j hj => ?_, fun s hs => ?_⟩, ?_⟩
      · rw [f2.1 5 (by decide)]
        exact (ha b (by omega)).1
      · rw [f2.1 4 (by decide)]; rfl
      · refine ⟨(v2 j hj).1, (v2 j hj).2, ?_, ?_⟩
        · unfold del
          by_cases z : j < b
          · rw [if_pos z]; exact (ha j (by omega)).2.2.1
          · rw [if_neg z]; exact (ha (j + 1) (by omega)).2.2.1
        · unfold del
          by_cases z : j < b
          · rw [if_pos z]; exact (ha j (by omega)).2.2.2
          · rw [if_neg z]; exact (ha (j + 1) (by omega)).2.2.2
      · rw [f2.2 7 (by decide)]; exact hw s hs
      · exact fr.tr (((fr.rf τ1).pI (by decide)).pI (by decide)) (f2.up (by decide) (by decide))
  · have : j = 0 := by omega
    subst this
    exact ⟨Nat.le_refl _, fun y => absurd y (Nat.lt_irrefl _)⟩
theorem nI_orr (a b : Nat) : nI a ||| nI b = nI (a ||| b) := by
  apply Int32.toBitVec_inj.mp
  apply BitVec.eq_of_toNat_eq
  show (BitVec.ofNat 32 _ ||| BitVec.ofNat 32 _).toNat = (BitVec.ofNat 32 _).toNat
  rw [BitVec.toNat_or, BitVec.toNat_ofNat, BitVec.toNat_ofNat, BitVec.toNat_ofNat, ← Nat.or_mod_two_pow]
theorem bit_I {m s : Nat} (hm : m < 2 ^ 31) (hs : s < 32) : (nI m >>> (nI s &&& 31)) &&& 1 = nI (bit m s) := by
  have hd : m / 2 ^ s ≤ m := Nat.div_le_self _ _
  rw [shr_nI hm hs, pk_andN (by omega) 1 (by decide)]
  rfl
theorem widen_m {τ : SS} {M : Nat} {wd : Nat → Nat} (g : SS → Option (Unit × SS)) (hM : M < 2 ^ 31) (hw : ∀ s, s < 16 → τ.2 7 s = nI (wd s)) :
    ∃ τ', L2 (f_m_X12_findWords_174 g) FUEL τ (nI M) 0 = g τ' ∧ fr [] [7] τ τ' ∧ ∀ s, s < 16 → τ'.2 7 s = nI (wd s + bit M s) := by
  refine L2_rule (I := fun m τ1 x1 x2 => ∃ i, i + m = 16 ∧ x1 = nI M ∧ x2 = nI i ∧ fr [] [7] τ τ1 ∧ ∀ s, s < 16 → τ1.2 7 s = nI (if s < i then wd s + bit M s else wd s)) (O := fun o => ∃ τ', o = g τ' ∧ fr [] [7] τ τ' ∧ ∀ s, s < 16 → τ'.2 7 s = nI (wd s + bit M s)) ?_ FUEL 16 τ _ _ (by decide) ⟨0, rfl, rfl, i_0, fr.rf τ, fun s hs => by rw [if_neg (Nat.not_lt_zero s)]; exact hw s hs⟩
  rintro g2 m τ1 x1 x2 ⟨i, hi, rfl, rfl, f1, hv⟩ ih
  unfold f_m_X12_findWords_174
  by_cases q : i < 16
  · have h9 := hv i q
    rw [if_neg (Nat.lt_irrefl i)] at h9
    rw [i_16, if_neg (fun z => nI_ge q (by decide) z), gd_nI q (by decide), gd_nI q (by decide), nI_clamp (by omega), bit_I hM (by omega), h9, nI_add, nI_1]
    refine ih (m - 1) _ _ _ (by omega) ⟨i + 1, by omega, rfl, rfl, f1.pA (by decide), fun s hs => ?_⟩
    show upd (τ1.2 7) _ _ s = _
    rw [upd_at]
    by_cases z : s = i
    · rw [if_pos z, if_pos (by omega), z]
    · rw [if_neg z, hv s hs]
      by_cases y : s < i
      · rw [if_pos y, if_pos (by omega)]
      · rw [if_neg y, if_neg (by omega)]
  · have : i = 16 := by omega
    subst this
    rw [i_16, if_pos (nI_le (Nat.le_refl _) (by decide))]
    exact ⟨τ1, rfl, f1, fun s hs => by rw [hv s hs, if_pos hs]⟩
theorem joins_m : ∀ (L : Nat) (τ : SS) (fn fm wd : Nat → Nat) (B : Nat), Mst τ L fn fm wd → B * 2 ^ L ≤ 2 ^ 29 → (∀ j, j < L → fn j ≤ B) → ∀ F, L < F → ∃ τ' wd', L0 f_m_X12_findWords_110 F τ = some ((), τ') ∧ WR L fn fm wd wd' ∧ (∀ s, s < 16 → τ'.2 7 s = nI (wd' s)) ∧ fr [4, 5] [5, 6, 7] τ τ' := by
  intro L
  induction L with
  | zero =>
    intro τ fn fm wd B h hB hfn F hF
    obtain ⟨F', rfl⟩ : ∃ F', F = F' + 1 := ⟨F - 1, by omega⟩
    show ∃ τ' wd', f_m_X12_findWords_110 (L0 f_m_X12_findWords_110 F') τ = some ((), τ') ∧ _
    unfold f_m_X12_findWords_110
    rw [if_pos (by rw [h.1, i_1]; exact nI_le (by decide) (by decide))]
    exact ⟨τ, wd, rfl, fun s _ => rfl, h.2.2.2, fr.rf τ⟩
  | succ L ih =>
    intro τ fn fm wd B h hB hfn F hF
    obtain ⟨F', rfl⟩ : ∃ F', F = F' + 1 := ⟨F - 1, by omega⟩
    show ∃ τ' wd', f_m_X12_findWords_110 (L0 f_m_X12_findWords_110 F') τ = some ((), τ') ∧ _
    have hLL := h.2.1
    by_cases q : L = 0
    · subst q
      unfold f_m_X12_findWords_110
      rw [if_pos (by rw [h.1, i_1]; exact nI_le (by decide) (by decide))]
      exact ⟨τ, wd, rfl, Or.inl ⟨rfl, fun s _ => rfl⟩, h.2.2.2, fr.rf τ⟩
    · obtain ⟨L', rfl⟩ : ∃ L', L = L' + 1 := ⟨L - 1, by omega⟩
      obtain ⟨k1, τ1, m1, e1, n1, h1, f1⟩ := takeLeast_m h
      obtain ⟨k2, τ2, m2, e2, n2, h2, f2⟩ := takeLeast_m h1
      have b1 := (h.2.2.1 k1 m1.1).2.2
      have b2 := (h1.2.2.1 k2 m2.1).2.2
      have c1 : fn k1 ≤ B := hfn k1 m1.1
      have c2 : del fn k1 k2 ≤ B := by
        unfold del
        have := m2.1
        by_cases z : k2 < k1
        · rw [if_pos z]; exact hfn k2 (by omega)
        · rw [if_neg z]; exact hfn (k2 + 1) (by omega)
      have hor : fm k1 ||| del fm k1 k2 < 2 ^ 16 := Nat.or_lt_two_pow b1.2 b2.2
      have hB2 : 2 * B * 2 ^ (L' + 1) ≤ 2 ^ 29 := by
        have e9 : B * 2 ^ (L' + 1 + 1) = 2 * B * 2 ^ (L' + 1) := by rw [Nat.pow_succ 2 (L' + 1), Nat.mul_comm 2 B, Nat.mul_assoc, Nat.mul_comm 2 (2 ^ (L' + 1))]
        omega
      have hB3 : 2 * B ≤ 2 ^ 29 := Nat.le_trans (Nat.le_mul_of_pos_right _ (Nat.pow_pos (by decide))) hB2
      generalize hg : L0 f_m_X12_findWords_110 F' = g
      unfold f_m_X12_findWords_110
      rw [if_neg (by rw [h.1, i_1]; exact fun z => nI_ge (show 1 < L' + 1 + 1 by omega) (by omega) z), e1, bd_s, e2, bd_s, h2.1, gd_nI (show L' < 16 by omega) (by decide), nI_clamp (by omega)]
      rw [show (putA τ2 5 L' (τ1.1 5 + τ2.1 5)).1 4 = nI L' from h2.1, gd_nI (show L' < 16 by omega) (by decide), nI_clamp (by omega), n1, n2, nI_add, nI_orr]
      rw [show (putA (putA τ2 5 L' (nI (fn k1 + del fn k1 k2))) 6 L' (nI (fm k1 ||| del fm k1 k2))).1 4 = nI L' from h2.1, nI_1]
      obtain ⟨τ3, e3, f3, v3⟩ := widen_m (τ := putI (putA (putA τ2 5 L' (nI (fn k1 + del fn k1 k2))) 6 L' (nI (fm k1 ||| del fm k1 k2))) 4 (nI (L' + 1))) (M := fm k1 ||| del fm k1 k2) (wd := wd) g (by omega) h2.2.2.2
      rw [e3]
      have f9 : fr [4, 5] [5, 6, 7] τ τ3 := ((f1.up (by decide) (by decide)).tr (f2.up (by decide) (by decide))).tr (fr.tr ((((fr.rf τ2).pA (by decide)).pA (by decide)).pI (by decide)) (f3.up (by decide) (by decide)))
      have hst : Mst τ3 (L' + 1) (pl (del (del fn k1) k2) (L' + 1 - 1) (fn k1 + del fn k1 k2)) (pl (del (del fm k1) k2) (L' + 1 - 1) (fm k1 ||| del fm k1 k2)) (fun s => wd s + bit (fm k1 ||| del fm k1 k2) s) := by
        refine ⟨by rw [f3.1 4 (by decide)]; rfl, by omega, fun j hj => ?_, v3⟩
        rw [f3.2 5 (by decide), f3.2 6 (by decide)]
        show upd (τ2.2 5) _ _ j = _ ∧ upd (τ2.2 6) _ _ j = _ ∧ _
        rw [upd_at, upd_at]
        unfold pl
        by_cases z : j = L'
        · rw [if_pos z, if_pos z, if_neg (by omega), if_neg (by omega)]
          exact ⟨rfl, rfl, by omega, hor⟩
        · rw [if_neg z, if_neg z, if_pos (by omega), if_pos (by omega)]
          exact h2.2.2.1 j (by omega)
      obtain ⟨τ4, wd', e4, w4, v4, f4⟩ := ih τ3 _ _ _ (2 * B) hst hB2 (fun j hj => by
        unfold pl
        by_cases z : j < L' + 1 - 1
        · rw [if_pos z]
          have : del (del fn k1) k2 j ≤ B := by
            unfold del
            have g1 := m1.1
            have g2 := m2.1
            by_cases z1 : j < k2
            · rw [if_pos z1]
              by_cases z2 : j < k1
              · rw [if_pos z2]; exact hfn j (by omega)
              · rw [if_neg z2]; exact hfn (j + 1) (by omega)
            · rw [if_neg z1]
              by_cases z2 : j + 1 < k1
              · rw [if_pos z2]; exact hfn (j + 1) (by omega)
              · rw [if_neg z2]; exact hfn (j + 1 + 1) (by omega)
          omega
        · rw [if_neg z]; omega) F' (by omega)
      rw [← hg, e4]
      exact ⟨τ4, wd', rfl, Or.inr ⟨by omega, k1, k2, m1, m2, w4⟩, v4, f9.tr f4⟩
