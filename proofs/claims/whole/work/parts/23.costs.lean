/-! costs -/
/-- bits and ends are in order: the greater start, and rounding up, never give less -/
theorem pair_mono {u v X Y : Nat} (huv : u ≤ v) (h : X ≤ Y) (hX : X < 2 ^ 31) (hY : Y < 2 ^ 31) (hv : v ≤ 1) : ∀ d, Mm u X d < Mm v Y d ∨ (Mm u X d = Mm v Y d ∧ Xd u X d ≤ Xd v Y d) := by
  intro d
  induction d with
  | zero => exact Or.inr ⟨rfl, h⟩
  | succ d ih =>
    have e1 : Mm u X (d + 1) = 2 * Mm u X d + bt u (Xd u X d) := rfl
    have e2 : Mm v Y (d + 1) = 2 * Mm v Y d + bt v (Xd v Y d) := rfl
    have b1 := bt_le u (Xd u X d)
    have b2 := bt_le v (Xd v Y d)
    rcases ih with q | ⟨q1, q2⟩
    · exact Or.inl (by omega)
    · have hs : sq u (Xd u X d) ≤ sq v (Xd v Y d) := by
        unfold sq
        apply Nat.div_le_div_right
        exact Nat.add_le_add (Nat.mul_le_mul q2 q2) (Nat.mul_le_mul_right _ huv)
      have e3 : Xd u X (d + 1) = nx u (Xd u X d) := rfl
      have e4 : Xd v Y (d + 1) = nx v (Xd v Y d) := rfl
      rw [e1, e2, e3, e4]
      unfold bt nx
      by_cases c1 : 2 ^ 31 ≤ sq u (Xd u X d)
      · rw [if_pos c1, if_pos c1, if_pos (by omega), if_pos (by omega)]
        exact Or.inr ⟨by omega, Nat.div_le_div_right (by omega)⟩
      · rw [if_neg c1, if_neg c1]
        by_cases c2 : 2 ^ 31 ≤ sq v (Xd v Y d)
        · rw [if_pos c2, if_pos c2]; exact Or.inl (by omega)
        · rw [if_neg c2, if_neg c2]; exact Or.inr ⟨by omega, hs⟩
theorem LG_hi {u n d : Nat} (hu : u ≤ 1) : LG u n d ≤ (Nat.log2 n + 1) * 2 ^ d := by
  have hM := Mm_lt u (X0 n) d
  unfold LG
  split
  · exact Nat.mul_le_mul_right _ (by omega)
  · rw [Nat.succ_mul]; omega
theorem LG_lo {u n d : Nat} : Nat.log2 n * 2 ^ d ≤ LG u n d := by
  unfold LG
  split <;> omega
theorem LG_bd {u n d : Nat} (h1 : 1 ≤ n) (h2 : n ≤ 1048576) (hd : d ≤ 24) (hu : u ≤ 1) : LG u n d < 2 ^ 29 := by
  have a := LG_hi (u := u) (n := n) (d := d) hu
  have b := log2_le h1 h2
  have c : (Nat.log2 n + 1) * 2 ^ d ≤ 21 * 2 ^ 24 := Nat.mul_le_mul (by omega) (Nat.pow_le_pow_right (by decide) hd)
  omega
/-- LOW of a part is not above HIGH of the whole -/
theorem LG_mono {a b d : Nat} (h0 : 1 ≤ a) (h : a ≤ b) (hb : b ≤ 1048576) : LG 0 a d ≤ LG 1 b d := by
  have la := log2_le h0 (by omega)
  have lb := log2_le (show 1 ≤ b by omega) hb
  have a1 := Nat.log2_self_le (show a ≠ 0 by omega)
  have b2 := Nat.lt_log2_self (n := b)
  have hle : Nat.log2 a ≤ Nat.log2 b := by
    rcases Nat.lt_or_ge (Nat.log2 b) (Nat.log2 a) with q | q
    · have : 2 ^ (Nat.log2 b + 1) ≤ 2 ^ Nat.log2 a := Nat.pow_le_pow_right (by decide) q
      omega
    · exact q
  by_cases e : Nat.log2 a = Nat.log2 b
  · have hX : X0 a ≤ X0 b := by unfold X0; rw [e]; exact Nat.mul_le_mul_right _ h
    have hm := pair_mono (u := 0) (v := 1) (by decide) hX (X0_lt h0 (by omega)) (X0_lt (by omega) hb) (by decide) d
    have hMM : Mm 0 (X0 a) d ≤ Mm 1 (X0 b) d := by omega
    have hA : LG 0 a d ≤ Nat.log2 a * 2 ^ d + Mm 0 (X0 a) d := by unfold LG; split <;> omega
    by_cases q : b = 2 ^ Nat.log2 b
    · have : a = b := by
        have : 2 ^ Nat.log2 a = b := by rw [e]; exact q.symm
        omega
      subst this
      unfold LG
      rw [if_pos q, if_pos q]; exact Nat.le_refl _
    · have hB : LG 1 b d = Nat.log2 b * 2 ^ d + Mm 1 (X0 b) d + 1 := by unfold LG; rw [if_neg q]
      rw [hB, ← e]; omega
  · have h3 := LG_hi (u := 0) (n := a) (d := d) (by decide)
    have h4 := LG_lo (u := 1) (n := b) (d := d)
    have h5 : (Nat.log2 a + 1) * 2 ^ d ≤ Nat.log2 b * 2 ^ d := Nat.mul_le_mul_right _ (by omega)
    omega
/-- a part's cost in a whole -/
def CO (u a b d : Nat) : Nat := if a = b then 0 else LG u b d - LG (1 - u) a d
theorem CO_bd {u a b d : Nat} (h1 : 1 ≤ b) (h2 : b ≤ 1048576) (hd : d ≤ 24) (hu : u ≤ 1) : CO u a b d < 2 ^ 29 := by
  have := LG_bd h1 h2 hd hu
  unfold CO
  split <;> omega
theorem lN_neg {a b : Nat} (ha : a < 2 ^ 31) (hb : b < 2 ^ 31) : ((0 : Int64) < lN a - lN b) ↔ b < a := by
  rw [Int64.lt_iff_toInt_lt]
  have e : (lN a - lN b).toInt = (a : Int) - b := by
    rw [Int64.toInt_sub, pk_lT (by omega), pk_lT (by omega)]
    rw [Int.bmod_eq_of_le] <;> omega
  have e0 : (0 : Int64).toInt = 0 := by decide
  rw [e, e0]; omega
theorem partIn_c {σ : SS} {u a b d : Nat} (ha : 1 ≤ a) (hab : a ≤ b) (hb : b ≤ 1048576) (hd : d ≤ 24) (hu : u ≤ 1) (hL : Lg σ) : ∃ σ', f_c_X1_partInWhole σ (nI a) (nI b) (nI d) (nI u) = some (lN (CO u a b d), σ') ∧ fr [] [8] σ σ' ∧ Lg σ' := by
  have key : ∀ y : Int32, y = nI (1 - u) → ¬ a = b → ∃ σ', f_c_X1_partInWhole_17 σ (nI a) (nI b) (nI d) (nI u) y = some (lN (CO u a b d), σ') ∧ fr [] [8] σ σ' ∧ Lg σ' := by
    intro y hy hne
    subst hy
    unfold f_c_X1_partInWhole_17 CO
    obtain ⟨σ1, e1, f1, L1⟩ := end_c (σ := σ) (n := b) (d := d) (u := u) (by omega) hb hd hu hL
    obtain ⟨σ2, e2, f2, L2⟩ := end_c (σ := σ1) (n := a) (d := d) (u := 1 - u) ha (by omega) hd (by omega) L1
    rw [e1, bd_s, e2, bd_s, if_neg hne]
    have g1 := LG_bd (u := u) (n := b) (d := d) (by omega) hb hd hu
    have g2 := LG_bd (u := 1 - u) (n := a) (d := d) ha (by omega) hd (by omega)
    refine ⟨σ2, ?_, f1.tr f2, L2⟩
    by_cases q : LG (1 - u) a d < LG u b d
    · rw [if_pos ((lN_neg (by omega) (by omega)).mpr q), lN_sub (by omega)]
    · rw [if_neg (fun z => q ((lN_neg (by omega) (by omega)).mp z)), show LG u b d - LG (1 - u) a d = 0 by omega, j_0]
  unfold f_c_X1_partInWhole
  by_cases e : a = b
  · rw [if_pos (by rw [e])]
    unfold CO
    rw [if_pos e]
    exact ⟨σ, by rw [j_0], fr.rf σ, hL⟩
  · rw [if_neg (fun z => e ((nI_eq (by omega) (by omega)).mp z))]
    rcases (show u = 0 ∨ u = 1 by omega) with rfl | rfl
    · rw [if_pos (by decide)]; exact key _ (by decide) e
    · rw [if_neg (by decide)]; exact key _ (by decide) e
theorem costOf_m {τ : SS} {u a b d : Nat} (ha : 1 ≤ a) (hab : a ≤ b) (hb : b ≤ 1048576) (hd : d ≤ 24) (hu : u ≤ 1) : f_m_X12_costOf τ (nI a) (nI b) (nI d) (nI u) = some (lN (CO u a b d), τ) := by
  unfold f_m_X12_costOf CO
  by_cases e : a = b
  · rw [if_pos (by rw [e]), if_pos e, j_0]
  · rw [if_neg (fun z => e ((nI_eq (by omega) (by omega)).mp z)), if_neg e]
    rcases (show u = 0 ∨ u = 1 by omega) with rfl | rfl
    · rw [if_neg (by decide), low_m (by omega) hb hd, bd_s, high_m ha (by omega) hd, bd_s]
      have g1 := LG_bd (u := 0) (n := b) (d := d) (by omega) hb hd (by decide)
      have g2 := LG_bd (u := 1) (n := a) (d := d) ha (by omega) hd (by decide)
      show (if (0 : Int32) ≤ lg_cmp (lN (LG 0 b d) - lN (LG 1 a d)) 0 then _ else _) = some (lN (LG 0 b d - LG 1 a d), τ)
      by_cases q : LG 1 a d ≤ LG 0 b d
      · rw [lN_sub q, if_pos ((lg_cmp_ge _ _).mpr (by rw [j_0, pk_lLE (by decide) (by omega)]; omega))]
      · rw [if_neg (fun z => by
          have z1 := (lg_cmp_ge _ _).mp z
          rw [Int64.le_iff_toInt_le] at z1
          have e2 : (lN (LG 0 b d) - lN (LG 1 a d)).toInt = (LG 0 b d : Int) - LG 1 a d := by
            rw [Int64.toInt_sub, pk_lT (by omega), pk_lT (by omega)]
            rw [Int.bmod_eq_of_le] <;> omega
          have e0 : (0 : Int64).toInt = 0 := by decide
          omega), show LG 0 b d - LG 1 a d = 0 by omega, j_0]
    · rw [if_pos (by decide), high_m (by omega) hb hd, bd_s, low_m ha (by omega) hd, bd_s]
      show some (lN (LG 1 b d) - lN (LG 0 a d), τ) = some (lN (LG 1 b d - LG 0 a d), τ)
      rw [lN_sub (LG_mono ha hab hb)]
