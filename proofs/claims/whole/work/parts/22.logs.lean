/-! logs -/
/-- one step: squared and cut (u = 0) or rounded up (u = 1); the bit; halved likewise -/
def sq (u X : Nat) : Nat := (X * X + u * (2 ^ 30 - 1)) / 2 ^ 30
def nx (u X : Nat) : Nat := if 2 ^ 31 ≤ sq u X then (sq u X + u) / 2 else sq u X
def bt (u X : Nat) : Nat := if 2 ^ 31 ≤ sq u X then 1 else 0
def Xd (u X : Nat) : Nat → Nat
  | 0 => X
  | d + 1 => nx u (Xd u X d)
def Mm (u X : Nat) : Nat → Nat
  | 0 => 0
  | d + 1 => 2 * Mm u X d + bt u (Xd u X d)
theorem bt_le (u X : Nat) : bt u X ≤ 1 := by unfold bt; split <;> omega
theorem Mm_lt (u X d : Nat) : Mm u X d < 2 ^ d := by
  induction d with
  | zero => show 0 < 1; decide
  | succ d ih =>
    unfold Mm
    have := bt_le u (Xd u X d)
    rw [Nat.pow_succ]; omega
theorem Mm_cut (u X d k : Nat) : Mm u X (d + k) / 2 ^ k = Mm u X d := by
  induction k with
  | zero => simp
  | succ k ih =>
    rw [Nat.pow_succ, Nat.mul_comm (2 ^ k) 2, ← Nat.div_div_eq_div_mul]
    have h : Mm u X (d + (k + 1)) / 2 = Mm u X (d + k) := by
      show (2 * Mm u X (d + k) + bt u (Xd u X (d + k))) / 2 = _
      have := bt_le u (Xd u X (d + k))
      omega
    rw [h, ih]
theorem sqr_lt {X : Nat} (h : X < 2 ^ 31) : X * X ≤ (2 ^ 31 - 1) * (2 ^ 31 - 1) := Nat.mul_le_mul (by omega) (by omega)
theorem nx_lt {u X : Nat} (hu : u ≤ 1) (h : X < 2 ^ 31) : nx u X < 2 ^ 31 := by
  have h1 := sqr_lt h
  have h2 : sq u X ≤ 4294967293 := by
    unfold sq
    rcases (show u = 0 ∨ u = 1 by omega) with rfl | rfl
    · omega
    · omega
  unfold nx
  split
  · omega
  · omega
theorem Xd_lt {u X : Nat} (hu : u ≤ 1) (h : X < 2 ^ 31) (d : Nat) : Xd u X d < 2 ^ 31 := by
  induction d with
  | zero => exact h
  | succ d ih => exact nx_lt hu ih
theorem j_0 : (0 : Int64) = lN 0 := by decide
theorem j_1 : (1 : Int64) = lN 1 := by decide
theorem j_2 : (2 : Int64) = lN 2 := by decide
theorem j_U : (1073741824 : Int64) = lN 1073741824 := by decide
theorem j_V : (2147483648 : Int64) = lN 2147483648 := by decide
theorem j_W : (1073741823 : Int64) = lN 1073741823 := by decide
theorem lc_ltN {a b : Nat} (ha : a < 2 ^ 63) (hb : b < 2 ^ 63) : (lg_cmp (lN a) (lN b) < 0) ↔ a < b := (lc_lt _ _).trans (pk_lLT ha hb)
theorem lc_eqN {a b : Nat} (ha : a < 2 ^ 63) (hb : b < 2 ^ 63) : (lg_cmp (lN a) (lN b) = 0) ↔ a = b := (lc_eq _ _).trans (pk_lEQ ha hb)
/-- the start: n times 2^(30 - e) -/
def X0 (n : Nat) : Nat := n * 2 ^ (30 - Nat.log2 n)
theorem log2_le {n : Nat} (h1 : 1 ≤ n) (h2 : n ≤ 1048576) : Nat.log2 n ≤ 20 := by
  rcases Nat.lt_or_ge 20 (Nat.log2 n) with q | q
  · have a := Nat.log2_self_le (show n ≠ 0 by omega)
    have b : 2 ^ 21 ≤ 2 ^ Nat.log2 n := Nat.pow_le_pow_right (by decide) q
    omega
  · exact q
theorem X0_lt {n : Nat} (h1 : 1 ≤ n) (h2 : n ≤ 1048576) : X0 n < 2 ^ 31 := by
  unfold X0
  have a := Nat.lt_log2_self (n := n)
  have b := log2_le h1 h2
  have e : 2 ^ 31 = 2 ^ (Nat.log2 n + 1) * 2 ^ (30 - Nat.log2 n) := by rw [← Nat.pow_add]; congr 1; omega
  rw [e]
  exact Nat.mul_lt_mul_of_pos_right a (Nat.pow_pos (by decide))
theorem shl1 : ∀ k, k < 31 → (1 : Int32) <<< (nI k &&& 31) = nI (2 ^ k) := by decide +kernel
theorem shr_nI {n k : Nat} (hn : n < 2 ^ 31) (hk : k < 32) : nI n >>> (nI k &&& 31) = nI (n / 2 ^ k) := by
  have hs : ∀ k, k < 32 → ((nI k &&& 31).toBitVec.smod 32).toNat = k := by decide +kernel
  exact pk_shrN hn _ k (hs k hk)
theorem power_c {σ : SS} {n : Nat} (h1 : 1 ≤ n) (h2 : n ≤ 1048576) : f_c_X4_greatestPower σ (nI n) = some (nI (Nat.log2 n), σ) := by
  have hl := log2_le h1 h2
  have ha := Nat.log2_self_le (show n ≠ 0 by omega)
  have hb := Nat.lt_log2_self (n := n)
  unfold f_c_X4_greatestPower
  refine L2_rule (I := fun k σ1 x1 x2 => ∃ i, i + k = Nat.log2 n ∧ x1 = nI n ∧ x2 = nI i ∧ σ1 = σ) (O := fun o => o = some (nI (Nat.log2 n), σ)) ?_ FUEL (Nat.log2 n) σ _ _ (by unfold FUEL; omega) ⟨0, by omega, rfl, i_0, rfl⟩
  rintro g k σ1 x1 x2 ⟨i, hi, rfl, rfl, rfl⟩ ih
  unfold f_c_X4_greatestPower_2
  have hp : 2 ^ (i + 1) ≤ 2 ^ 21 := Nat.pow_le_pow_right (by decide) (by omega)
  rw [i_30, if_neg (fun z => nI_ge (show i < 30 by omega) (by decide) z), nI_1, shl1 (i + 1) (by omega)]
  by_cases q : i < Nat.log2 n
  · have hq : 2 ^ (i + 1) ≤ 2 ^ Nat.log2 n := Nat.pow_le_pow_right (by decide) q
    rw [if_neg (nI_nlt (by omega) (by omega))]
    exact ih (k - 1) _ _ _ (by omega) ⟨i + 1, by omega, rfl, rfl, rfl⟩
  · have : i = Nat.log2 n := by omega
    subst this
    rw [if_pos (nI_lt hb (by omega))]
theorem power_m {τ : SS} {n : Nat} (h1 : 1 ≤ n) (h2 : n ≤ 1048576) : f_m_X12_powerOf τ (nI n) = some (nI (Nat.log2 n), τ) := by
  have hl := log2_le h1 h2
  have ha := Nat.log2_self_le (show n ≠ 0 by omega)
  have hb := Nat.lt_log2_self (n := n)
  unfold f_m_X12_powerOf
  refine L2_rule (I := fun k σ1 x1 x2 => ∃ i, i + k = Nat.log2 n ∧ x1 = nI n ∧ x2 = nI i ∧ σ1 = τ) (O := fun o => o = some (nI (Nat.log2 n), τ)) ?_ FUEL (Nat.log2 n) τ _ _ (by unfold FUEL; omega) ⟨0, by omega, rfl, i_0, rfl⟩
  rintro g k σ1 x1 x2 ⟨i, hi, rfl, rfl, rfl⟩ ih
  unfold f_m_X12_powerOf_2
  have hd : n / 2 ^ i ≤ n := Nat.div_le_self _ _
  rw [shr_nI (by omega) (by omega), i_1]
  by_cases q : i < Nat.log2 n
  · have hq : 2 ^ (i + 1) ≤ 2 ^ Nat.log2 n := Nat.pow_le_pow_right (by decide) q
    have h3 : 2 ≤ n / 2 ^ i := by
      rw [Nat.le_div_iff_mul_le (Nat.pow_pos (by decide))]
      rw [Nat.pow_succ] at hq; omega
    rw [if_neg (fun z => nI_ge (show 1 < n / 2 ^ i by omega) (by omega) z), ← i_1, nI_1]
    exact ih (k - 1) _ _ _ (by omega) ⟨i + 1, by omega, rfl, rfl, rfl⟩
  · have : i = Nat.log2 n := by omega
    subst this
    have h3 : n / 2 ^ Nat.log2 n < 2 := by
      rw [Nat.div_lt_iff_lt_mul (Nat.pow_pos (by decide))]
      rw [Nat.pow_succ] at hb; omega
    rw [if_pos (nI_le (by omega) (by decide))]
theorem fracBits_c {σ : SS} {n u : Nat} (h1 : 1 ≤ n) (h2 : n ≤ 1048576) (hu : u ≤ 1) : f_c_X4_fractionBits σ (nI n) (nI (Nat.log2 n)) (nI u) = some (nI (Mm u (X0 n) 24), σ) := by
  have hl := log2_le h1 h2
  have hX := X0_lt h1 h2
  have start : ∀ a b : Int64, a = lN (u * (2 ^ 30 - 1)) → b = lN u → f_c_X4_fractionBits_23 σ (nI n) (nI (Nat.log2 n)) a b = some (nI (Mm u (X0 n) 24), σ) := by
    intro a b ha hb
    unfold f_c_X4_fractionBits_23
    rw [nI_l (by omega), i_30, pk_sub (by omega), wb_shl n (by omega)]
    refine L5_rule (I := fun k σ1 x1 x2 x3 x4 x5 => ∃ i, i + k = 24 ∧ x1 = lN (u * (2 ^ 30 - 1)) ∧ x2 = lN u ∧ x3 = lN (Xd u (X0 n) i) ∧ x4 = nI (Mm u (X0 n) i) ∧ x5 = nI i ∧ σ1 = σ) (O := fun o => o = some (nI (Mm u (X0 n) 24), σ)) ?_ FUEL 24 σ _ _ _ _ _ (by decide) ⟨0, rfl, ha, hb, rfl, i_0, i_0, rfl⟩
    rintro g k σ1 x1 x2 x3 x4 x5 ⟨i, hi, rfl, rfl, rfl, rfl, rfl, rfl⟩ ih
    unfold f_c_X4_fractionBits_40
    by_cases q : i < 24
    · have hXi := Xd_lt hu hX i
      have hs := sqr_lt hXi
      have hus : u * (2 ^ 30 - 1) ≤ 2 ^ 30 - 1 := by
        have h9 := Nat.mul_le_mul_right (2 ^ 30 - 1) hu
        rwa [Nat.one_mul] at h9
      have hMi := Mm_lt u (X0 n) i
      have hp : 2 ^ i ≤ 2 ^ 24 := Nat.pow_le_pow_right (by decide) (by omega)
      have hsq : (Xd u (X0 n) i * Xd u (X0 n) i + u * (2 ^ 30 - 1)) / 2 ^ 30 = sq u (Xd u (X0 n) i) := rfl
      have hsl : sq u (Xd u (X0 n) i) ≤ 2 ^ 32 := by unfold sq; omega
      rw [i_24, if_neg (fun z => nI_ge q (by decide) z), lN_mul, lN_add, pf_shr (d := 30) (by decide) (by omega), hsq, j_V, nI_1, i_2, pk_mul]
      by_cases e : 2 ^ 31 ≤ sq u (Xd u (X0 n) i)
      · rw [if_neg (fun z => by have := (lc_ltN (by omega) (by decide)).mp z; omega), lN_add, pf_shr (d := 1) (by decide) (by omega), nI_1]
        refine ih (k - 1) _ _ _ _ _ _ (by omega) ⟨i + 1, by omega, rfl, rfl, ?_, ?_, rfl, rfl⟩
        · congr 1
          show _ = nx u (Xd u (X0 n) i)
          unfold nx; rw [if_pos e]
        · congr 1
          show _ = 2 * Mm u (X0 n) i + bt u (Xd u (X0 n) i)
          unfold bt; rw [if_pos e]
      · rw [if_pos ((lc_ltN (by omega) (by decide)).mpr (by omega))]
        refine ih (k - 1) _ _ _ _ _ _ (by omega) ⟨i + 1, by omega, rfl, rfl, ?_, ?_, rfl, rfl⟩
        · congr 1
          show _ = nx u (Xd u (X0 n) i)
          unfold nx; rw [if_neg e]
        · congr 1
          show _ = 2 * Mm u (X0 n) i + bt u (Xd u (X0 n) i)
          unfold bt; rw [if_neg e, Nat.add_zero]
    · have : i = 24 := by omega
      subst this
      rw [i_24, if_pos (nI_le (Nat.le_refl _) (by decide))]
  unfold f_c_X4_fractionBits f_c_X4_fractionBits_12
  rcases (show u = 0 ∨ u = 1 by omega) with rfl | rfl
  · rw [if_neg (by decide), if_neg (by decide)]
    exact start _ _ (by decide) (by decide)
  · rw [if_pos (by decide), if_pos (by decide)]
    exact start _ _ (by decide) (by decide)
/-- the log's end: u = 0 LOW, u = 1 HIGH -/
def LG (u n d : Nat) : Nat := if n = 2 ^ Nat.log2 n then Nat.log2 n * 2 ^ d else Nat.log2 n * 2 ^ d + Mm u (X0 n) d + u
/-- what is kept of logs -/
def Lg (σ : SS) : Prop := ∀ u n, u ≤ 1 → n < 416 → σ.2 8 (416 * u + n) = 0 ∨ σ.2 8 (416 * u + n) = nI (Mm u (X0 n) 24 + 1)
theorem Lg.fr {I A : List Nat} {σ σ' : SS} (h : Lg σ) (f : fr I A σ σ') (h0 : 8 ∉ A) : Lg σ' := fun u n hu hn => by rw [f.2 8 h0]; exact h u n hu hn
theorem fraction_c {σ : SS} {n u : Nat} (h1 : 1 ≤ n) (h2 : n ≤ 1048576) (hu : u ≤ 1) (hL : Lg σ) : ∃ σ', f_c_X4_fraction σ (nI n) (nI (Nat.log2 n)) (nI u) = some (nI (Mm u (X0 n) 24), σ') ∧ fr [] [8] σ σ' ∧ Lg σ' := by
  have hM := Mm_lt u (X0 n) 24
  have slot : ∀ y : Int32, n < 416 → y = nI (416 * u + n) → ∃ σ', f_c_X4_fraction_28 σ (nI n) (nI (Nat.log2 n)) (nI u) y = some (nI (Mm u (X0 n) 24), σ') ∧ fr [] [8] σ σ' ∧ Lg σ' := by
    intro y hn hy
    subst hy
    unfold f_c_X4_fraction_28 f_c_X4_fraction_55
    rw [gd_nI (show 416 * u + n < 832 by omega) (by decide), nI_clamp (by omega)]
    by_cases e : σ.2 8 (416 * u + n) = 0
    · rw [if_pos e, fracBits_c h1 h2 hu, bd_s, gd_nI (show 416 * u + n < 832 by omega) (by decide), gd_nI (show 416 * u + n < 832 by omega) (by decide), nI_1]
      refine ⟨putA σ 8 (416 * u + n) (nI (Mm u (X0 n) 24 + 1)), ?_, (fr.rf σ).pA (by decide), ?_⟩
      · rw [show (putA σ 8 (416 * u + n) (nI (Mm u (X0 n) 24 + 1))).2 8 (416 * u + n) = nI (Mm u (X0 n) 24 + 1) from by
          show upd (σ.2 8) _ _ _ = _
          rw [upd_at, if_pos rfl], nI_pred]
      · intro u' n' hu' hn'
        show upd (σ.2 8) _ _ _ = 0 ∨ upd (σ.2 8) _ _ _ = _
        rw [upd_at]
        by_cases q : 416 * u' + n' = 416 * u + n
        · rw [if_pos q]
          have a : u' = u := by omega
          have b : n' = n := by omega
          subst a; subst b
          exact Or.inr rfl
        · rw [if_neg q]; exact hL u' n' hu' hn'
    · rw [if_neg e, gd_nI (show 416 * u + n < 832 by omega) (by decide)]
      rcases hL u n hu hn with q | q
      · exact absurd q e
      · rw [q, nI_pred]
        exact ⟨σ, rfl, fr.rf σ, hL⟩
  unfold f_c_X4_fraction
  by_cases q : n < 416
  · rw [i_416, if_pos (nI_lt q (by decide))]
    rcases (show u = 0 ∨ u = 1 by omega) with rfl | rfl
    · rw [if_neg (by decide)]
      exact slot _ q (by congr 1; omega)
    · rw [if_pos (by decide), nI_add]
      exact slot _ q (by congr 1)
  · rw [i_416, if_neg (nI_nlt (by omega) (by omega)), fracBits_c h1 h2 hu, bd_s]
    exact ⟨σ, rfl, fr.rf σ, hL⟩
theorem end_c {σ : SS} {n d u : Nat} (h1 : 1 ≤ n) (h2 : n ≤ 1048576) (hd : d ≤ 24) (hu : u ≤ 1) (hL : Lg σ) : ∃ σ', f_c_X4_end σ (nI n) (nI d) (nI u) = some (lN (LG u n d), σ') ∧ fr [] [8] σ σ' ∧ Lg σ' := by
  have hl := log2_le h1 h2
  have hp : 2 ^ Nat.log2 n ≤ 2 ^ 20 := Nat.pow_le_pow_right (by decide) hl
  unfold f_c_X4_end LG
  rw [power_c h1 h2, bd_s, shl1 _ (by omega), nI_l (by omega), wb_shl _ (by omega)]
  by_cases q : n = 2 ^ Nat.log2 n
  · rw [if_pos (by rw [← q]), if_pos q]
    exact ⟨σ, rfl, fr.rf σ, hL⟩
  · rw [if_neg (fun z => q ((nI_eq (by omega) (by omega)).mp z)), if_neg q]
    obtain ⟨σ', e, f, hL'⟩ := fraction_c (σ := σ) h1 h2 hu hL
    have hM := Mm_lt u (X0 n) 24
    have hcut : Mm u (X0 n) 24 / 2 ^ (24 - d) = Mm u (X0 n) d := by
      have h9 := Mm_cut u (X0 n) d (24 - d)
      rwa [show d + (24 - d) = 24 by omega] at h9
    have hMd := Mm_lt u (X0 n) d
    have hpd : 2 ^ d ≤ 2 ^ 24 := Nat.pow_le_pow_right (by decide) hd
    rw [e, bd_s, i_24, pk_sub hd, shr_nI (by omega) (by omega), hcut, nI_l (by omega), lN_add]
    rcases (show u = 0 ∨ u = 1 by omega) with rfl | rfl
    · rw [if_neg (by decide), Nat.add_zero]
      exact ⟨σ', rfl, f, hL'⟩
    · rw [if_pos (by decide), lN_1]
      exact ⟨σ', rfl, f, hL'⟩
theorem sq0 : ∀ d, Xd 0 (2 ^ 30) d = 2 ^ 30 ∧ Mm 0 (2 ^ 30) d = 0 := by
  intro d
  induction d with
  | zero => exact ⟨rfl, rfl⟩
  | succ d ih =>
    have e : sq 0 (2 ^ 30) = 2 ^ 30 := by decide
    constructor
    · show nx 0 (Xd 0 (2 ^ 30) d) = _
      rw [ih.1]; unfold nx; rw [e, if_neg (by decide)]
    · show 2 * Mm 0 (2 ^ 30) d + bt 0 (Xd 0 (2 ^ 30) d) = _
      rw [ih.1, ih.2]; unfold bt; rw [e, if_neg (by decide)]
theorem X0_pow {n : Nat} (hl : Nat.log2 n ≤ 30) (q : n = 2 ^ Nat.log2 n) : X0 n = 2 ^ 30 := by
  unfold X0
  have e : n * 2 ^ (30 - Nat.log2 n) = 2 ^ Nat.log2 n * 2 ^ (30 - Nat.log2 n) := by rw [← q]
  rw [e, ← Nat.pow_add]; congr 1; omega
theorem low_m {τ : SS} {n d : Nat} (h1 : 1 ≤ n) (h2 : n ≤ 1048576) (hd : d ≤ 24) : f_m_X12_lowLog τ (nI n) (nI d) = some (lN (LG 0 n d), τ) := by
  have hl := log2_le h1 h2
  have hX := X0_lt h1 h2
  have hLG : LG 0 n d = Nat.log2 n * 2 ^ d + Mm 0 (X0 n) d := by
    unfold LG
    by_cases q : n = 2 ^ Nat.log2 n
    · rw [if_pos q, X0_pow (by omega) q, (sq0 d).2, Nat.add_zero]
    · rw [if_neg q]; rfl
  unfold f_m_X12_lowLog
  rw [power_m h1 h2, bd_s, nI_l (by omega), i_30, pk_sub (by omega), wb_shl n (by omega)]
  refine L5_rule (I := fun k τ1 x1 x2 x3 x4 x5 => ∃ i, i + k = d ∧ x1 = nI d ∧ x2 = nI (Nat.log2 n) ∧ x3 = lN (Xd 0 (X0 n) i) ∧ x4 = lN (Mm 0 (X0 n) i) ∧ x5 = nI i ∧ τ1 = τ) (O := fun o => o = some (lN (LG 0 n d), τ)) ?_ FUEL d τ _ _ _ _ _ (by unfold FUEL; omega) ⟨0, by omega, rfl, rfl, rfl, j_0, i_0, rfl⟩
  rintro g k τ1 x1 x2 x3 x4 x5 ⟨i, hi, rfl, rfl, rfl, rfl, rfl, rfl⟩ ih
  unfold f_m_X12_lowLog_19
  by_cases q : i < d
  · have hXi := Xd_lt (u := 0) (by omega) hX i
    have hs := sqr_lt hXi
    have hMi := Mm_lt 0 (X0 n) i
    have hp : 2 ^ i ≤ 2 ^ 24 := Nat.pow_le_pow_right (by decide) (by omega)
    have hsq : Xd 0 (X0 n) i * Xd 0 (X0 n) i / 1073741824 = sq 0 (Xd 0 (X0 n) i) := by unfold sq; rw [Nat.zero_mul, Nat.add_zero]
    have hsl : sq 0 (Xd 0 (X0 n) i) ≤ 2 ^ 32 := by unfold sq; omega
    rw [if_neg (fun z => nI_ge q (by omega) z), lN_mul, j_U, pk_lDiv (by omega) (by decide) (by decide), hsq, j_V, nI_1, j_2, lN_mul]
    by_cases e : 2 ^ 31 ≤ sq 0 (Xd 0 (X0 n) i)
    · rw [if_neg (fun z => by have := (lc_ltN (by omega) (by decide)).mp z; omega), pk_lDiv (by omega) (by decide) (by decide), lN_1]
      refine ih (k - 1) _ _ _ _ _ _ (by omega) ⟨i + 1, by omega, rfl, rfl, ?_, ?_, rfl, rfl⟩
      · congr 1
        show _ = nx 0 (Xd 0 (X0 n) i)
        unfold nx; rw [if_pos e]; rfl
      · congr 1
        show _ = 2 * Mm 0 (X0 n) i + bt 0 (Xd 0 (X0 n) i)
        unfold bt; rw [if_pos e]
    · rw [if_pos ((lc_ltN (by omega) (by decide)).mpr (by omega))]
      refine ih (k - 1) _ _ _ _ _ _ (by omega) ⟨i + 1, by omega, rfl, rfl, ?_, ?_, rfl, rfl⟩
      · congr 1
        show _ = nx 0 (Xd 0 (X0 n) i)
        unfold nx; rw [if_neg e]
      · congr 1
        show _ = 2 * Mm 0 (X0 n) i + bt 0 (Xd 0 (X0 n) i)
        unfold bt; rw [if_neg e, Nat.add_zero]
  · have : i = d := by omega
    subst this
    rw [if_pos (nI_le (Nat.le_refl _) (by omega)), nI_l (by omega), wb_shl _ (by omega), lN_add, hLG]
theorem high_m {τ : SS} {n d : Nat} (h1 : 1 ≤ n) (h2 : n ≤ 1048576) (hd : d ≤ 24) : f_m_X12_highLog τ (nI n) (nI d) = some (lN (LG 1 n d), τ) := by
  have hl := log2_le h1 h2
  have hX := X0_lt h1 h2
  have hp0 : 2 ^ Nat.log2 n ≤ 2 ^ 20 := Nat.pow_le_pow_right (by decide) hl
  unfold f_m_X12_highLog
  rw [power_m h1 h2, bd_s, shl1 _ (by omega), nI_l (by omega), wb_shl _ (by omega), nI_l (by omega)]
  by_cases q0 : n = 2 ^ Nat.log2 n
  · rw [if_pos (by rw [← q0])]
    unfold LG
    rw [if_pos q0]
  · rw [if_neg (fun z => q0 ((nI_eq (by omega) (by omega)).mp z)), i_30, pk_sub (by omega), wb_shl n (by omega)]
    have hLG : LG 1 n d = Nat.log2 n * 2 ^ d + Mm 1 (X0 n) d + 1 := by unfold LG; rw [if_neg q0]
    refine L5_rule (I := fun k τ1 x1 x2 x3 x4 x5 => ∃ i, i + k = d ∧ x1 = nI d ∧ x2 = nI (Nat.log2 n) ∧ x3 = lN (Xd 1 (X0 n) i) ∧ x4 = lN (Mm 1 (X0 n) i) ∧ x5 = nI i ∧ τ1 = τ) (O := fun o => o = some (lN (LG 1 n d), τ)) ?_ FUEL d τ _ _ _ _ _ (by unfold FUEL; omega) ⟨0, by omega, rfl, rfl, rfl, j_0, i_0, rfl⟩
    rintro g k τ1 x1 x2 x3 x4 x5 ⟨i, hi, rfl, rfl, rfl, rfl, rfl, rfl⟩ ih
    unfold f_m_X12_highLog_31
    by_cases q : i < d
    · have hXi := Xd_lt (u := 1) (by omega) hX i
      have hs := sqr_lt hXi
      have hMi := Mm_lt 1 (X0 n) i
      have hp : 2 ^ i ≤ 2 ^ 24 := Nat.pow_le_pow_right (by decide) (by omega)
      have hsl : sq 1 (Xd 1 (X0 n) i) ≤ 2 ^ 32 := by unfold sq; omega
      rw [if_neg (fun z => nI_ge q (by omega) z), lN_mul, j_U, pk_lDiv (by omega) (by decide) (by decide), lN_mul, lN_sub (Nat.div_mul_le_self _ _)]
      have step : ∀ y1 : Nat, Xd 1 (X0 n) i * Xd 1 (X0 n) i / 1073741824 + y1 = sq 1 (Xd 1 (X0 n) i) → f_m_X12_highLog_64 g τ1 (nI d) (nI (Nat.log2 n)) (lN (Mm 1 (X0 n) i)) (nI i) (lN (Xd 1 (X0 n) i * Xd 1 (X0 n) i / 1073741824)) (lN y1) = some (lN (LG 1 n d), τ1) := by
        intro y1 hy
        unfold f_m_X12_highLog_64
        rw [lN_add, hy, j_V, nI_1, j_2, lN_mul]
        by_cases e : 2 ^ 31 ≤ sq 1 (Xd 1 (X0 n) i)
        · rw [if_neg (fun z => by have := (lc_ltN (by omega) (by decide)).mp z; omega), pk_lRem (by omega) (by decide) (by decide), pk_lDiv (by omega) (by decide) (by decide), lN_add, lN_1]
          refine ih (k - 1) _ _ _ _ _ _ (by omega) ⟨i + 1, by omega, rfl, rfl, ?_, ?_, rfl, rfl⟩
          · congr 1
            show _ = nx 1 (Xd 1 (X0 n) i)
            unfold nx; rw [if_pos e]; omega
          · congr 1
            show _ = 2 * Mm 1 (X0 n) i + bt 1 (Xd 1 (X0 n) i)
            unfold bt; rw [if_pos e]
        · rw [if_pos ((lc_ltN (by omega) (by decide)).mpr (by omega))]
          refine ih (k - 1) _ _ _ _ _ _ (by omega) ⟨i + 1, by omega, rfl, rfl, ?_, ?_, rfl, rfl⟩
          · congr 1
            show _ = nx 1 (Xd 1 (X0 n) i)
            unfold nx; rw [if_neg e]
          · congr 1
            show _ = 2 * Mm 1 (X0 n) i + bt 1 (Xd 1 (X0 n) i)
            unfold bt; rw [if_neg e, Nat.add_zero]
      by_cases e0 : Xd 1 (X0 n) i * Xd 1 (X0 n) i - Xd 1 (X0 n) i * Xd 1 (X0 n) i / 1073741824 * 1073741824 = 0
      · rw [e0, if_pos (by decide), j_0]
        exact step 0 (by unfold sq; omega)
      · rw [if_neg (fun z => e0 (by rw [j_0] at z; exact (lc_eqN (by omega) (by decide)).mp z)), j_1]
        exact step 1 (by unfold sq; omega)
    · have : i = d := by omega
      subst this
      rw [if_pos (nI_le (Nat.le_refl _) (by omega)), nI_l (by omega), wb_shl _ (by omega), lN_add, lN_1, hLG]
theorem log_both {σ τ : SS} (hL : Lg σ) (x y z : Int32) : ∃ r σ' τ', f_c_X11_log σ x y z = some (r, σ') ∧ f_m_X12_log τ x y z = some (r, τ') ∧ fr [] [8] σ σ' ∧ Lg σ' ∧ fr [0] [] τ τ' := by
  have f1 : fr [0] [] τ (putI τ 0 0) := (fr.rf τ).pI (by decide)
  unfold f_c_X11_log f_m_X12_log
  rw [wi_c, bd_s, wi_m' _ x 1 1048576 (by decide) (by decide), bd_s]
  by_cases hx : wi x 1 1048576 = 0
  · rw [if_pos hx, if_pos hx]; exact ⟨_, σ, _, rfl, rfl, fr.rf σ, hL, f1⟩
  · rw [if_neg hx, if_neg hx, wi_c, bd_s, wi_m' _ y 0 24 (by decide) (by decide), bd_s]
    by_cases hy : wi y 0 24 = 0
    · rw [if_pos hy, if_pos hy]; exact ⟨_, σ, _, rfl, rfl, fr.rf σ, hL, f1⟩
    · rw [if_neg hy, if_neg hy, isSide_c, bd_s, wi_m' _ z 0 1 (by decide) (by decide), bd_s]
      by_cases hz : wi z 0 1 = 0
      · rw [if_pos hz, if_pos hz]; exact ⟨_, σ, _, rfl, rfl, fr.rf σ, hL, f1⟩
      · rw [if_neg hz, if_neg hz]
        obtain ⟨d, hd, rfl⟩ := wi_nI (b := 24) (by decide) hy
        obtain ⟨u, hu, rfl⟩ := wi_nI (b := 1) (by decide) hz
        obtain ⟨n, h1, h2, rfl⟩ : ∃ n, 1 ≤ n ∧ n ≤ 1048576 ∧ x = nI n := by
          rcases wi_or x 1 1048576 with q | ⟨-, q1, q2⟩
          · exact absurd q hx
          · obtain ⟨j, hj, rfl⟩ := nI_of (x := x) (by
              rw [Int32.lt_iff_toInt_lt]; rw [Int32.le_iff_toInt_le] at q1
              have e1 : (1 : Int32).toInt = 1 := by decide
              have e0 : (0 : Int32).toInt = 0 := by decide
              omega)
            refine ⟨j, ?_, ?_, rfl⟩
            · exact (nI_leI (by decide) hj).mp q1
            · exact (nI_leI hj (by decide)).mp q2
        obtain ⟨σ', e, f, hL'⟩ := end_c (σ := σ) h1 h2 hd hu hL
        rw [e, bd_s]
        rcases (show u = 0 ∨ u = 1 by omega) with rfl | rfl
        · rw [if_pos (by decide), low_m h1 h2 hd, bd_s]; exact ⟨_, σ', _, rfl, rfl, f, hL', f1⟩
        · rw [if_neg (by decide), high_m h1 h2 hd, bd_s]; exact ⟨_, σ', _, rfl, rfl, f, hL', f1⟩
