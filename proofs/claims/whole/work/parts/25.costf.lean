/-! cost, digits -/
def KV (t w : Nat → Nat) (n K kind u d : Nat) : Nat := if kind = 0 then SC t n K u d else if kind = 1 then SX t w n u d else wsum (GG t u d) n
theorem KV_bd {t w : Nat → Nat} {n K kind u d : Nat} (ht : ∀ i, i < n → t i < 16) (hn : n ≤ 400) (hw : ∀ s, s < 16 → w s ≤ 1000) (hd : d ≤ 24) (hu : u ≤ 1) (hcov : kind = 1 → cov t w n) : KV t w n K kind u d < 2 ^ 62 := by
  have hnp : np n K ≤ 400 := by unfold np; omega
  unfold KV
  by_cases k0 : kind = 0
  · rw [if_pos k0]
    have h1 : SC t n K u d ≤ (fo (pr t K) (np n K)).length * (400 * 2 ^ 29) := lsum_le (fun j hj => by
      obtain ⟨q, q1, q2⟩ := fo_mem.mp hj
      have p1 : 0 < cnt (pr t K) j (np n K) := cnt_pos.mpr ⟨q, q1, q2⟩
      have p2 := part_le (K := K) (j := j) ht
      have p3 := cnt_le (ix (cv t K)) (j / 16) (np n K)
      have p4 := CO_bd (u := u) (a := cnt (pr t K) j (np n K)) (b := cnt (ix (cv t K)) (j / 16) (np n K)) (d := d) (by omega) (by omega) hd hu
      unfold GC
      exact Nat.mul_le_mul (by omega) (by omega))
    have h2 := fo_len (pr t K) (np n K)
    have h3 : (fo (pr t K) (np n K)).length * (400 * 2 ^ 29) ≤ 400 * (400 * 2 ^ 29) := Nat.mul_le_mul_right _ (by omega)
    omega
  · rw [if_neg k0]
    by_cases k1 : kind = 1
    · rw [if_pos k1]
      have hc := hcov k1
      have hs : wsum w 16 ≤ 16 * 1000 := wsum_le hw
      have h1 : SX t w n u d ≤ 16 * (400 * 2 ^ 29) := wsum_le (fun s hs' => by
        unfold GX
        by_cases p : 0 < cnt t s n
        · rw [if_pos p]
          have c1 := cnt_le t s n
          have c2 := hc s hs' p
          have c3 := wsum_ge (w := w) hs'
          have p4 := CO_bd (u := u) (a := w s) (b := wsum w 16) (d := d) (by omega) (by omega) hd hu
          exact Nat.mul_le_mul (by omega) (by omega)
        · rw [if_neg p]; exact Nat.zero_le _)
      omega
    · rw [if_neg k1]
      have h1 : wsum (GG t u d) n ≤ n * 2 ^ 29 := wsum_le (fun p hp => by
        unfold GG
        have p4 := CO_bd (u := u) (a := cnt t (t p) p + 1) (b := p + 16) (d := d) (by omega) (by omega) hd hu
        omega)
      have h3 : n * 2 ^ 29 ≤ 400 * 2 ^ 29 := Nat.mul_le_mul_right _ hn
      omega
theorem costKind_c {σ : SS} {t w : Nat → Nat} {n K kind u d : Nat} (h : Tc σ t n) (hc : CtxI σ t n K) (hw : Wc σ w) (hL : Lg σ) (hk : kind ≤ 2) (hcov : kind = 1 → cov t w n) (hd : d ≤ 24) (hu : u ≤ 1) :
    ∃ σ', f_c_X11_costOfKind σ (nI kind) (nI d) (nI u) = some (lN (KV t w n K kind u d), σ') ∧ fr [4, 5, 6] [3, 4, 5, 6, 7, 8, 9] σ σ' ∧ CtxI σ' t n K ∧ Lg σ' ∧ (σ'.1 6 = σ.1 6 ∨ σ'.1 6 = σ.1 1) := by
  unfold f_c_X11_costOfKind KV
  rcases (show kind = 0 ∨ kind = 1 ∨ kind = 2 by omega) with rfl | rfl | rfl
  · rw [if_pos (by decide), if_pos rfl]
    obtain ⟨σ1, e1, f1, x1, s1⟩ := follow_c h hc.1 hc.2.1 hc.2.2
    have hL1 := hL.fr f1 (by decide)
    obtain ⟨σ2, e2, f2, L2⟩ := content_c (u := u) (d := d) (h.fr f1 (by decide) (by decide) (by decide)) x1 hd hu hL1
    rw [e1, bd_s, e2, bd_s]
    refine ⟨σ2, rfl, (f1.up (by decide) (by decide)).tr (f2.up (by decide) (by decide)), ⟨hc.1, ?_, fun _ => x1.fr f2 (by decide) (by decide)⟩, L2, Or.inr (by rw [f2.1 6 (by decide)]; exact s1)⟩
    rw [f2.1 3 (by decide), f1.1 3 (by decide)]; exact hc.2.1
  · rw [if_neg (by decide), if_pos (by decide), if_neg (by decide), if_pos rfl]
    obtain ⟨σ2, e2, f2, L2⟩ := cross_c (u := u) (d := d) h hw (hcov rfl) hd hu hL
    rw [e2, bd_s]
    refine ⟨σ2, rfl, f2.up (by decide) (by decide), ⟨hc.1, ?_, fun q => ?_⟩, L2, Or.inl (f2.1 6 (by decide))⟩
    · rw [f2.1 3 (by decide)]; exact hc.2.1
    · rw [f2.1 6 (by decide), f2.1 1 (by decide)] at q
      exact (hc.2.2 q).fr f2 (by decide) (by decide)
  · rw [if_neg (by decide), if_neg (by decide), if_neg (by decide), if_neg (by decide)]
    obtain ⟨σ2, e2, f2, L2⟩ := growing_c (u := u) (d := d) h hd hu hL
    rw [e2, bd_s]
    refine ⟨σ2, rfl, f2.up (by decide) (by decide), ⟨hc.1, ?_, fun q => ?_⟩, L2, Or.inl (f2.1 6 (by decide))⟩
    · rw [f2.1 3 (by decide)]; exact hc.2.1
    · rw [f2.1 6 (by decide), f2.1 1 (by decide)] at q
      exact (hc.2.2 q).fr f2 (by decide) (by decide)
theorem costBy_m {τ : SS} {t w : Nat → Nat} {n K kind u d : Nat} (h : Tm τ t n) (hK : K ≤ 3) (hkk : τ.1 2 = nI K) (hw : Wm τ w) (hk : kind ≤ 2) (hd : d ≤ 24) (hu : u ≤ 1) :
    ∃ (r : Int64) (τ' : SS), f_m_X12_costBy τ (nI kind) (nI d) (nI u) = some (r, τ') ∧ fr [3] [2, 3, 4] τ τ' ∧ ((kind = 1 ∧ ¬ cov t w n ∧ r = -2) ∨ ((kind = 1 → cov t w n) ∧ r = lN (KV t w n K kind u d))) := by
  unfold f_m_X12_costBy KV
  rcases (show kind = 0 ∨ kind = 1 ∨ kind = 2 by omega) with rfl | rfl | rfl
  · rw [if_pos (by decide), if_pos rfl]
    obtain ⟨τ1, e1, f1⟩ := content_m (u := u) (d := d) h hK hkk hd hu
    rw [e1, bd_s]
    exact ⟨_, τ1, rfl, f1, Or.inr ⟨fun q => by omega, rfl⟩⟩
  · rw [if_neg (by decide), if_pos (by decide), if_neg (by decide), if_pos rfl]
    obtain ⟨r, e1, hr⟩ := cross_m (u := u) (d := d) h hw hd hu
    rw [e1, bd_s]
    rcases hr with ⟨c1, c2⟩ | ⟨c1, c2⟩
    · exact ⟨_, τ, rfl, fr.rf τ, Or.inr ⟨fun _ => c1, c2⟩⟩
    · exact ⟨_, τ, rfl, fr.rf τ, Or.inl ⟨rfl, c1, c2⟩⟩
  · rw [if_neg (by decide), if_neg (by decide), if_neg (by decide), if_neg (by decide), growing_m (u := u) (d := d) h hd hu, bd_s]
    exact ⟨_, τ, rfl, fr.rf τ, Or.inr ⟨fun q => by omega, rfl⟩⟩
theorem cost_both {σ τ : SS} {t w : Nat → Nat} {n K : Nat} (h : Tc σ t n) (hm : Tm τ t n) (hc : CtxI σ t n K) (hkk : τ.1 2 = nI K) (hw : Wc σ w) (hwm : Wm τ w) (hL : Lg σ) (x y z : Int32) :
    ∃ r σ' τ', f_c_X11_cost σ x y z = some (r, σ') ∧ f_m_X12_cost τ x y z = some (r, τ') ∧ CtxI σ' t n K ∧ Lg σ' ∧ (σ'.1 6 = σ.1 6 ∨ σ'.1 6 = σ.1 1) ∧ fr [4, 5, 6] [3, 4, 5, 6, 7, 8, 9] σ σ' ∧ fr [0, 3] [2, 3, 4] τ τ' := by
  have f1 : fr [0, 3] [2, 3, 4] τ (putI τ 0 0) := (fr.rf τ).pI (by decide)
  have f1' : fr [0] [] τ (putI τ 0 0) := (fr.rf τ).pI (by decide)
  unfold f_c_X11_cost f_m_X12_cost
  rw [isCost_c, bd_s, wi_m' _ x 0 2 (by decide) (by decide), bd_s]
  by_cases hx : wi x 0 2 = 0
  · rw [if_pos hx, if_pos hx]; exact ⟨_, σ, _, rfl, rfl, hc, hL, Or.inl rfl, fr.rf σ, f1⟩
  · rw [if_neg hx, if_neg hx, wi_c, bd_s, wi_m' _ y 0 24 (by decide) (by decide), bd_s]
    by_cases hy : wi y 0 24 = 0
    · rw [if_pos hy, if_pos hy]; exact ⟨_, σ, _, rfl, rfl, hc, hL, Or.inl rfl, fr.rf σ, f1⟩
    · rw [if_neg hy, if_neg hy, isSide_c, bd_s, wi_m' _ z 0 1 (by decide) (by decide), bd_s]
      by_cases hz : wi z 0 1 = 0
      · rw [if_pos hz, if_pos hz]; exact ⟨_, σ, _, rfl, rfl, hc, hL, Or.inl rfl, fr.rf σ, f1⟩
      · rw [if_neg hz, if_neg hz]
        obtain ⟨kind, hk, rfl⟩ := wi_nI (b := 2) (by decide) hx
        obtain ⟨d, hd, rfl⟩ := wi_nI (b := 24) (by decide) hy
        obtain ⟨u, hu, rfl⟩ := wi_nI (b := 1) (by decide) hz
        obtain ⟨r, τ1, e1, f2, hr⟩ := costBy_m (u := u) (d := d) (hm.fr f1' (by decide) (by decide)) hc.1 hkk (hwm.fr f1' (by decide)) hk hd hu
        have f3 := f1.tr (f2.up (I' := [0, 3]) (A' := [2, 3, 4]) (by decide) (by decide))
        rw [e1, bd_s]
        unfold f_c_X11_cost_51
        obtain ⟨cv9, ec, hcv⟩ := cover_c h hw
        rcases hr with ⟨k1, c1, c2⟩ | ⟨c1, c2⟩
        · subst k1
          rw [if_pos (by decide), ec, bd_s]
          rcases hcv with ⟨c3, -⟩ | ⟨-, c4⟩
          · exact absurd c3 c1
          · rw [if_pos c4, c2]
            exact ⟨_, σ, τ1, rfl, rfl, hc, hL, Or.inl rfl, fr.rf σ, f3⟩
        · obtain ⟨σ2, e2, g2, hc2, L2, s2⟩ := costKind_c (u := u) (d := d) h hc hw hL hk c1 hd hu
          have fin : ∃ r σ' τ', (bd (f_c_X11_costOfKind σ (nI kind) (nI d) (nI u)) fun r55 σ55 => some (r55, σ55)) = some (r, σ') ∧ some (lN (KV t w n K kind u d), τ1) = some (r, τ') ∧ CtxI σ' t n K ∧ Lg σ' ∧ (σ'.1 6 = σ.1 6 ∨ σ'.1 6 = σ.1 1) ∧ fr [4, 5, 6] [3, 4, 5, 6, 7, 8, 9] σ σ' ∧ fr [0, 3] [2, 3, 4] τ τ' := by
            rw [e2, bd_s]
            exact ⟨_, σ2, τ1, rfl, rfl, hc2, L2, s2, g2, f3⟩
          rw [c2]
          by_cases k1 : kind = 1
          · rw [if_pos (by rw [k1]; decide), ec, bd_s]
            rcases hcv with ⟨-, c3⟩ | ⟨c4, -⟩
            · rw [if_neg (by rw [c3]; decide)]; exact fin
            · exact absurd (c1 k1) c4
          · rw [if_neg (show ¬ nI kind = 1 from fun q => k1 ((nI_eq (by omega) (by decide)).mp (q.trans i_1)))]; exact fin
/-- what 'digits' searches: the first place that will do -/
def Rs (P : Nat → Prop) (r : Int32) : Prop := (∃ e, e ≤ 24 ∧ P e ∧ (∀ e', e' < e → ¬ P e') ∧ r = nI e) ∨ ((∀ e, e ≤ 24 → ¬ P e) ∧ r = -2)
theorem Rs_eq {P : Nat → Prop} {r r' : Int32} (h : Rs P r) (h' : Rs P r') : r = r' := by
  rcases h with ⟨e, a1, a2, a3, a4⟩ | ⟨a1, a2⟩ <;> rcases h' with ⟨e', b1, b2, b3, b4⟩ | ⟨b1, b2⟩
  · have : e = e' := by
      rcases Nat.lt_trichotomy e e' with q | q | q
      · exact absurd a2 (b3 e q)
      · exact q
      · exact absurd b2 (a3 e' q)
    rw [a4, b4, this]
  · exact absurd a2 (b1 e a1)
  · exact absurd b2 (a1 e' b1)
  · rw [a2, b2]
def PD (t w : Nat → Nat) (n K kind : Nat) (y : Int32) (d : Nat) : Prop := ¬ (0 : Int32) < lg_cmp ((lN (KV t w n K kind 1 d) - lN (KV t w n K kind 0 d)) * 1024) (y.toInt64 <<< ((nI d).toInt64 &&& 63))
theorem digits_c {σ : SS} {t w : Nat → Nat} {n K kind : Nat} (y : Int32) (h : Tc σ t n) (hc : CtxI σ t n K) (hw : Wc σ w) (hL : Lg σ) (hk : kind ≤ 2) (hcov : kind = 1 → cov t w n) :
    ∃ r σ', L3 f_c_X11_digits_43 FUEL σ (nI kind) y 0 = some (r, σ') ∧ Rs (PD t w n K kind y) r ∧ CtxI σ' t n K ∧ Lg σ' ∧ (σ'.1 6 = σ.1 6 ∨ σ'.1 6 = σ.1 1) ∧ fr [4, 5, 6] [3, 4, 5, 6, 7, 8, 9] σ σ' := by
  refine L3_rule (I := fun k σ1 x1 x2 x3 => ∃ i, i + k = 25 ∧ x1 = nI kind ∧ x2 = y ∧ x3 = nI i ∧ fr [4, 5, 6] [3, 4, 5, 6, 7, 8, 9] σ σ1 ∧ CtxI σ1 t n K ∧ Lg σ1 ∧ (σ1.1 6 = σ.1 6 ∨ σ1.1 6 = σ.1 1) ∧ ∀ e, e < i → ¬ PD t w n K kind y e) (O := fun o => ∃ r σ', o = some (r, σ') ∧ Rs (PD t w n K kind y) r ∧ CtxI σ' t n K ∧ Lg σ' ∧ (σ'.1 6 = σ.1 6 ∨ σ'.1 6 = σ.1 1) ∧ fr [4, 5, 6] [3, 4, 5, 6, 7, 8, 9] σ σ') ?_ FUEL 25 σ _ _ _ (by decide) ⟨0, rfl, rfl, rfl, i_0, fr.rf σ, hc, hL, Or.inl rfl, fun e he => absurd he (Nat.not_lt_zero e)⟩
  rintro g k σ1 x1 x2 x3 ⟨i, hi, rfl, rfl, rfl, f1, hc1, L1, s1, hv⟩ ih
  unfold f_c_X11_digits_43
  by_cases q : i ≤ 24
  · rw [i_24, if_neg (nI_nlt q (by decide))]
    obtain ⟨σ2, e2, f2, hc2, L2, s2⟩ := costKind_c (u := 1) (d := i) (h.fr f1 (by decide) (by decide) (by decide)) hc1 (hw.fr f1 (by decide) (by decide)) L1 hk hcov q (by decide)
    have f12 := f1.tr f2
    obtain ⟨σ3, e3, f3, hc3, L3, s3⟩ := costKind_c (u := 0) (d := i) (h.fr f12 (by decide) (by decide) (by decide)) hc2 (hw.fr f12 (by decide) (by decide)) L2 hk hcov q (by decide)
    have f13 := f12.tr f3
    have s13 : σ3.1 6 = σ.1 6 ∨ σ3.1 6 = σ.1 1 := by
      rcases s3 with a | a
      · rcases s2 with b | b
        · rcases s1 with c | c
          · exact Or.inl (a.trans (b.trans c))
          · exact Or.inr (a.trans (b.trans c))
        · exact Or.inr (a.trans (b.trans (f1.1 1 (by decide))))
      · exact Or.inr (a.trans (f12.1 1 (by decide)))
    rw [i_1, e2, bd_s, i_0, e3, bd_s]
    by_cases p : PD t w n K kind x2 i
    · rw [← i_0, if_neg p]
      exact ⟨_, σ3, rfl, Or.inl ⟨i, q, p, hv, rfl⟩, hc3, L3, s13, f13⟩
    · rw [← i_0, if_pos (Classical.not_not.mp p), ← i_1, nI_1]
      refine ih (k - 1) _ _ _ _ (by omega) ⟨i + 1, by omega, rfl, rfl, rfl, f13, hc3, L3, s13, fun e he => ?_⟩
      by_cases z : e = i
      · rw [z]; exact p
      · exact hv e (by omega)
  · have : i = 25 := by omega
    subst this
    rw [i_24, if_pos (nI_lt (by decide) (by decide))]
    exact ⟨_, σ1, rfl, Or.inr ⟨fun e he => hv e (by omega), rfl⟩, hc1, L1, s1, f1⟩
theorem digits_m {τ : SS} {t w : Nat → Nat} {n K kind : Nat} (y : Int32) (h : Tm τ t n) (hK : K ≤ 3) (hkk : τ.1 2 = nI K) (hw : Wm τ w) (hk : kind ≤ 2) :
    ∃ r τ', L3 f_m_X12_digits_33 FUEL τ (nI kind) y 0 = some (r, τ') ∧ fr [3] [2, 3, 4] τ τ' ∧ ((kind = 1 ∧ ¬ cov t w n ∧ r = -2) ∨ ((kind = 1 → cov t w n) ∧ Rs (PD t w n K kind y) r)) := by
  refine L3_rule (I := fun k τ1 x1 x2 x3 => ∃ i, i + k = 25 ∧ x1 = nI kind ∧ x2 = y ∧ x3 = nI i ∧ fr [3] [2, 3, 4] τ τ1 ∧ (∀ e, e < i → ¬ PD t w n K kind y e) ∧ (0 < i → kind = 1 → cov t w n)) (O := fun o => ∃ r τ', o = some (r, τ') ∧ fr [3] [2, 3, 4] τ τ' ∧ ((kind = 1 ∧ ¬ cov t w n ∧ r = -2) ∨ ((kind = 1 → cov t w n) ∧ Rs (PD t w n K kind y) r))) ?_ FUEL 25 τ _ _ _ (by decide) ⟨0, rfl, rfl, rfl, i_0, fr.rf τ, fun e he => absurd he (Nat.not_lt_zero e), fun z => absurd z (Nat.lt_irrefl 0)⟩
  rintro g k τ1 x1 x2 x3 ⟨i, hi, rfl, rfl, rfl, f1, hv, hcv⟩ ih
  unfold f_m_X12_digits_33
  by_cases q : i ≤ 24
  · rw [i_24, if_neg (nI_nlt q (by decide))]
    obtain ⟨r2, τ2, e2, f2, hr2⟩ := costBy_m (u := 0) (d := i) (h.fr f1 (by decide) (by decide)) hK (by rw [f1.1 2 (by decide)]; exact hkk) (hw.fr f1 (by decide)) hk q (by decide)
    have f12 := f1.tr f2
    rw [i_0, e2, bd_s]
    rcases hr2 with ⟨k1, c1, c2⟩ | ⟨c1, c2⟩
    · rw [if_neg (by rw [c2, ← i_0]; decide)]
      exact ⟨_, τ2, rfl, f12, Or.inl ⟨k1, c1, rfl⟩⟩
    · have hb := KV_bd (t := t) (w := w) (n := n) (K := K) (kind := kind) (u := 0) (d := i) (fun j hj => (h.2.2 j hj).1) h.2.1 (fun s hs => (hw s hs).1) q (by decide) c1
      obtain ⟨r3, τ3, e3, f3, hr3⟩ := costBy_m (u := 1) (d := i) (h.fr f12 (by decide) (by decide)) hK (by rw [f12.1 2 (by decide)]; exact hkk) (hw.fr f12 (by decide)) hk q (by decide)
      have f13 := f12.tr f3
      rw [← i_0, if_pos (by rw [c2]; exact (lg_cmp_ge _ _).mpr (by rw [j_0, pk_lLE (by decide) (by omega)]; omega)), i_1, e3, bd_s]
      rcases hr3 with ⟨k1, c3, -⟩ | ⟨-, c4⟩
      · exact absurd (c1 k1) c3
      · rw [c2, c4, Int64.mul_comm]
        by_cases p : PD t w n K kind x2 i
        · rw [if_neg p]
          exact ⟨_, τ3, rfl, f13, Or.inr ⟨c1, Or.inl ⟨i, q, p, hv, rfl⟩⟩⟩
        · rw [if_pos (Classical.not_not.mp p), ← i_1, nI_1]
          refine ih (k - 1) _ _ _ _ (by omega) ⟨i + 1, by omega, rfl, rfl, rfl, f13, fun e he => ?_, fun _ => c1⟩
          by_cases z : e = i
          · rw [z]; exact p
          · exact hv e (by omega)
  · have : i = 25 := by omega
    subst this
    rw [i_24, if_pos (nI_lt (by decide) (by decide))]
    exact ⟨_, τ1, rfl, f1, Or.inr ⟨hcv (by decide), Or.inr ⟨fun e he => hv e (by omega), rfl⟩⟩⟩
theorem digits_both {σ τ : SS} {t w : Nat → Nat} {n K : Nat} (h : Tc σ t n) (hm : Tm τ t n) (hc : CtxI σ t n K) (hkk : τ.1 2 = nI K) (hw : Wc σ w) (hwm : Wm τ w) (hL : Lg σ) (x y : Int32) :
    ∃ r σ' τ', f_c_X11_digits σ x y = some (r, σ') ∧ f_m_X12_digits τ x y = some (r, τ') ∧ CtxI σ' t n K ∧ Lg σ' ∧ (σ'.1 6 = σ.1 6 ∨ σ'.1 6 = σ.1 1) ∧ fr [4, 5, 6] [3, 4, 5, 6, 7, 8, 9] σ σ' ∧ fr [0, 3] [2, 3, 4] τ τ' := by
  have f1 : fr [0, 3] [2, 3, 4] τ (putI τ 0 0) := (fr.rf τ).pI (by decide)
  have f1' : fr [0] [] τ (putI τ 0 0) := (fr.rf τ).pI (by decide)
  unfold f_c_X11_digits f_m_X12_digits
  rw [isCost_c, bd_s, wi_m' _ x 0 2 (by decide) (by decide), bd_s]
  by_cases hx : wi x 0 2 = 0
  · rw [if_pos hx, if_pos hx]; exact ⟨_, σ, _, rfl, rfl, hc, hL, Or.inl rfl, fr.rf σ, f1⟩
  · rw [if_neg hx, if_neg hx, wi_c, bd_s, wi_m' _ y 0 1000000 (by decide) (by decide), bd_s]
    by_cases hy : wi y 0 1000000 = 0
    · rw [if_pos hy, if_pos hy]; exact ⟨_, σ, _, rfl, rfl, hc, hL, Or.inl rfl, fr.rf σ, f1⟩
    · rw [if_neg hy, if_neg hy]
      obtain ⟨kind, hk, rfl⟩ := wi_nI (b := 2) (by decide) hx
      obtain ⟨r, τ1, e1, f2, hr⟩ := digits_m y (hm.fr f1' (by decide) (by decide)) hc.1 hkk (hwm.fr f1' (by decide)) hk
      have f3 := f1.tr (f2.up (I' := [0, 3]) (A' := [2, 3, 4]) (by decide) (by decide))
      rw [e1]
      obtain ⟨cv9, ec, hcv⟩ := cover_c h hw
      rcases hr with ⟨k1, c1, c2⟩ | ⟨c1, c2⟩
      · subst k1
        rw [if_pos (by decide), ec, bd_s]
        rcases hcv with ⟨c3, -⟩ | ⟨-, c4⟩
        · exact absurd c3 c1
        · rw [if_pos c4, c2]
          exact ⟨_, σ, τ1, rfl, rfl, hc, hL, Or.inl rfl, fr.rf σ, f3⟩
      · obtain ⟨r2, σ2, e2, hr2, hc2, L2, s2, g2⟩ := digits_c y h hc hw hL hk c1
        have e := Rs_eq hr2 c2
        subst e
        by_cases k1 : kind = 1
        · rw [if_pos (by rw [k1]; decide), ec, bd_s]
          rcases hcv with ⟨-, c3⟩ | ⟨c4, -⟩
          · rw [if_neg (by rw [c3]; decide), e2]
            exact ⟨_, σ2, τ1, rfl, rfl, hc2, L2, s2, g2, f3⟩
          · exact absurd (c1 k1) c4
        · rw [if_neg (show ¬ nI kind = 1 from fun q => k1 ((nI_eq (by omega) (by decide)).mp (q.trans i_1))), e2]
          exact ⟨_, σ2, τ1, rfl, rfl, hc2, L2, s2, g2, f3⟩
