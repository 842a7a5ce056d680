/-! contexts: entries, the whole walk of the class -/
theorem findEntry_c {σ : SS} {l : List Nat} (hl : l.length ≤ 400) (h5 : σ.1 5 = nI l.length) (he : ∀ e j, l[e]? = some j → σ.2 5 e = nI (j / 16) ∧ σ.2 6 e = nI (j % 16) ∧ j < 2 ^ 20) {c s : Nat} (hs : s < 16) (hc : c < 2 ^ 16) :
    f_c_X0_findEntry σ (nI c) (nI s) = some (nI (fi (16 * c + s) l), σ) := by
  have hle := fi_le (16 * c + s) l
  unfold f_c_X0_findEntry
  refine L3_rule (I := fun k σ1 x1 x2 x3 => ∃ i, i + k = l.length ∧ i ≤ fi (16 * c + s) l ∧ x1 = nI c ∧ x2 = nI s ∧ x3 = nI i ∧ σ1 = σ) (O := fun o => o = some (nI (fi (16 * c + s) l), σ)) ?_ FUEL l.length σ _ _ _ (by unfold FUEL; omega) ⟨0, by omega, Nat.zero_le _, rfl, rfl, i_0, rfl⟩
  rintro g k σ1 x1 x2 x3 ⟨i, hi, hix, rfl, rfl, rfl, rfl⟩ ih
  unfold f_c_X0_findEntry_2
  rw [h5]
  by_cases q : i < l.length
  · obtain ⟨j, hj⟩ : ∃ j, l[i]? = some j := ⟨l[i], List.getElem?_eq_getElem q⟩
    obtain ⟨e1, e2, e3⟩ := he i j hj
    rw [if_neg (fun z => nI_ge q (by omega) z), gd_nI (show i < 400 by omega) (by decide), nI_clamp (by omega), e1]
    have hfound : i = fi (16 * c + s) l → j = 16 * c + s := fun z => by
      rw [z] at hj
      rw [fi_at (by omega)] at hj
      exact (Option.some.inj hj).symm
    by_cases ec : j / 16 = c
    · rw [if_pos (by rw [ec]), gd_nI (show i < 400 by omega) (by decide), e2]
      by_cases es : j % 16 = s
      · rw [if_pos (by rw [es])]
        have hjj : j = 16 * c + s := by omega
        have : i = fi (16 * c + s) l := by
          rcases Nat.lt_or_ge i (fi (16 * c + s) l) with z | z
          · rw [hjj] at hj; exact absurd hj (fi_ne z)
          · omega
        rw [← this]
      · rw [if_neg (fun z => es ((nI_eq (by omega) (by omega)).mp z)), nI_1]
        have hne : i ≠ fi (16 * c + s) l := fun z => by have := hfound z; omega
        exact ih (k - 1) _ _ _ _ (by omega) ⟨i + 1, by omega, by omega, rfl, rfl, rfl, rfl⟩
    · rw [if_neg (fun z => ec ((nI_eq (by omega) (by omega)).mp z)), nI_1]
      have hne : i ≠ fi (16 * c + s) l := fun z => by have := hfound z; omega
      exact ih (k - 1) _ _ _ _ (by omega) ⟨i + 1, by omega, by omega, rfl, rfl, rfl, rfl⟩
  · have : i = l.length := by omega
    rw [if_pos (nI_le (by omega) (by omega))]
    have e : fi (16 * c + s) l = l.length := by omega
    rw [e]
theorem pr_lt {t : Nat → Nat} {n K q : Nat} (ht : ∀ i, i < n → t i < 16) (hn : n ≤ 400) (hq : K + q < n) : pr t K q < 16 * 400 + 16 := by
  unfold pr
  have h1 := ix_lt (cv t K) q
  have h2 := fo_len (cv t K) (q + 1)
  have h3 := ht (K + q) hq
  omega
theorem Cx_e {σ : SS} {t : Nat → Nat} {n K m : Nat} (ht : ∀ i, i < n → t i < 16) (hn : n ≤ 400) (hm : K + m ≤ n) (hx : Cx σ t K m) : ∀ e j, (fo (pr t K) m)[e]? = some j → σ.2 5 e = nI (j / 16) ∧ σ.2 6 e = nI (j % 16) ∧ j < 2 ^ 20 := by
  intro e j hj
  obtain ⟨q, h1, h2⟩ := fo_mem.mp (List.mem_of_getElem? hj)
  have := pr_lt (K := K) (q := q) ht hn (by omega)
  exact ⟨(hx.2.2.2 e j hj).1, (hx.2.2.2 e j hj).2.1, by omega⟩
theorem entryOf_c {σ : SS} {t : Nat → Nat} {n K m : Nat} (ht : ∀ i, i < n → t i < 16) (hn : n ≤ 400) (hm : K + m < n) (h5 : σ.1 5 = nI (fo (pr t K) m).length) (hx : ∀ e j, (fo (pr t K) m)[e]? = some j → σ.2 5 e = nI (j / 16) ∧ σ.2 6 e = nI (j % 16) ∧ σ.2 7 e = nI (cnt (pr t K) j m)) :
    ∃ σ', f_c_X0_entryOf σ (nI (ix (cv t K) m)) (nI (t (K + m))) = some (nI (ix (pr t K) m), σ') ∧ fr [5] [5, 6, 7] σ σ' ∧ σ'.1 5 = nI (fo (pr t K) (m + 1)).length ∧ ∀ e j, (fo (pr t K) (m + 1))[e]? = some j → σ'.2 5 e = nI (j / 16) ∧ σ'.2 6 e = nI (j % 16) ∧ σ'.2 7 e = nI (cnt (pr t K) j m) := by
  have hlen := fo_len (pr t K) m
  have h3 := ht (K + m) hm
  have h1 := ix_lt (cv t K) m
  have h2 := fo_len (cv t K) (m + 1)
  have he : ∀ e j, (fo (pr t K) m)[e]? = some j → σ.2 5 e = nI (j / 16) ∧ σ.2 6 e = nI (j % 16) ∧ j < 2 ^ 20 := fun e j hj => by
    obtain ⟨q, h1, h2⟩ := fo_mem.mp (List.mem_of_getElem? hj)
    have := pr_lt (K := K) (q := q) ht hn (by omega)
    exact ⟨(hx e j hj).1, (hx e j hj).2.1, by omega⟩
  unfold f_c_X0_entryOf
  rw [findEntry_c (l := fo (pr t K) m) (by omega) h5 he h3 (by omega), bd_s, h5]
  have hpr : 16 * ix (cv t K) m + t (K + m) = pr t K m := rfl
  rw [hpr]
  have hle := fi_le (pr t K m) (fo (pr t K) m)
  by_cases q : fi (pr t K m) (fo (pr t K) m) < (fo (pr t K) m).length
  · rw [if_neg (fun z => by have := (nI_eq (by omega) (by omega)).mp z; omega)]
    refine ⟨σ, rfl, fr.rf _, ?_, ?_⟩
    · rw [fo_s, if_pos q]; exact h5
    · rw [fo_s, if_pos q]; exact hx
  · have e : fi (pr t K m) (fo (pr t K) m) = (fo (pr t K) m).length := by omega
    rw [if_pos (by rw [e]), e, gd_nI (by omega) (by decide), gd_nI (by omega) (by decide), gd_nI (by omega) (by decide), nI_clamp (by omega)]
    refine ⟨_, by unfold ix; rw [e], ?_, ?_, ?_⟩
    · exact ((((fr.rf σ).pA (by decide)).pA (by decide)).pA (by decide)).pI (by decide)
    · show σ.1 5 + 1 = _
      rw [h5, nI_1, fo_s, if_neg q, List.length_append]; rfl
    · rw [fo_s, if_neg q]
      intro c j hj
      show upd (σ.2 5) _ _ c = _ ∧ upd (σ.2 6) _ _ c = _ ∧ upd (σ.2 7) _ _ c = _
      rw [upd_at, upd_at, upd_at]
      by_cases ec : c = (fo (pr t K) m).length
      · rw [if_pos ec, if_pos ec, if_pos ec]
        rw [ec, List.getElem?_append_right (Nat.le_refl _), Nat.sub_self] at hj
        have hj' : pr t K m = j := Option.some.inj hj
        rw [← hj']
        refine ⟨?_, ?_, ?_⟩
        · show nI (ix (cv t K) m) = nI (pr t K m / 16)
          congr 1; unfold pr; omega
        · show nI (t (K + m)) = nI (pr t K m % 16)
          congr 1; unfold pr; omega
        · rw [cnt_newv q]; exact i_0
      · rw [if_neg ec, if_neg ec, if_neg ec]
        have hcl : c < (fo (pr t K) m).length := by
          have := (List.getElem?_eq_some_iff.mp hj).1
          rw [List.length_append] at this
          simp only [List.length_cons, List.length_nil] at this
          omega
        rw [List.getElem?_append_left hcl] at hj
        exact hx c j hj
theorem follow_step {σ : SS} {t : Nat → Nat} {n K m : Nat} (h : Tc σ t n) (hK : K ≤ 3) (ho : σ.1 3 = nI K) (hm : K + m < n) (hx : Cx σ t K m) (g : SS → Int32 → Option (Unit × SS)) :
    ∃ σ', f_c_X0_follow_35 g σ (nI (K + m)) = g σ' (nI (K + (m + 1))) ∧ fr [4, 5] [3, 4, 5, 6, 7] σ σ' ∧ Cx σ' t K (m + 1) := by
  have hn := h.2.1
  have ht : ∀ i, i < n → t i < 16 := fun i hi => (h.2.2.1 i hi).1
  have hl1 := fo_len (cv t K) (m + 1)
  have hl2 := fo_len (pr t K) (m + 1)
  have hi1 := ix_lt (cv t K) m
  have hi2 := ix_lt (pr t K) m
  unfold f_c_X0_follow_35
  rw [if_neg (by rw [h.1]; exact fun z => nI_ge hm (by omega) z), codeBefore_c h hK ho hm, bd_s]
  obtain ⟨σ1, e1, f1, n1, c1⟩ := numberOf_c h hK hm hx
  rw [e1, bd_s, gd_nI (by omega) (by decide), gd_nI (by omega) (by decide), gd_nI (show K + m < 400 by omega) (by decide), nI_clamp (by omega), nI_clamp (by omega)]
  have hs : (putA σ1 4 (ix (cv t K) m) (σ1.2 4 (ix (cv t K) m) + 1)).2 0 (K + m) = nI (t (K + m)) := by
    show σ1.2 0 (K + m) = _
    rw [f1.2 0 (by decide)]; exact (h.2.2.1 (K + m) hm).2
  rw [hs]
  obtain ⟨σ2, e2, f2, n2, c2⟩ := entryOf_c (σ := putA σ1 4 (ix (cv t K) m) (σ1.2 4 (ix (cv t K) m) + 1)) (K := K) (m := m) ht hn hm (by rw [putA_1, f1.1 5 (by decide)]; exact hx.2.1) (fun e j hj => by
    show σ1.2 5 e = _ ∧ σ1.2 6 e = _ ∧ σ1.2 7 e = _
    rw [f1.2 5 (by decide), f1.2 6 (by decide), f1.2 7 (by decide)]; exact hx.2.2.2 e j hj)
  rw [e2, bd_s, gd_nI (by omega) (by decide), gd_nI (by omega) (by decide), nI_1, nI_clamp (by omega)]
  refine ⟨_, rfl, ?_, ?_, ?_, ?_, ?_⟩
  · refine fr.pA (fr.tr (fr.tr (f1.up (by decide) (by decide)) (fr.pA (fr.rf σ1) (by decide))) (f2.up (by decide) (by decide))) (by decide)
  · show σ2.1 4 = _
    rw [f2.1 4 (by decide)]; exact n1
  · exact n2
  · intro c x hc
    show σ2.2 3 c = _ ∧ σ2.2 4 c = _
    rw [f2.2 3 (by decide), f2.2 4 (by decide)]
    show σ1.2 3 c = _ ∧ upd (σ1.2 4) _ _ c = _
    refine ⟨(c1 c x hc).1, ?_⟩
    rw [upd_at]
    unfold cnt
    by_cases e : c = ix (cv t K) m
    · rw [if_pos e, if_pos e.symm]
      rw [e, ix_at] at hc
      rw [(c1 (ix (cv t K) m) (cv t K m) (ix_at _ _)).2, nI_1, e]
    · rw [if_neg e, if_neg (fun z => e z.symm)]; exact (c1 c x hc).2
  · intro e j hj
    show σ2.2 5 e = _ ∧ σ2.2 6 e = _ ∧ upd (σ2.2 7) _ _ e = _
    refine ⟨(c2 e j hj).1, (c2 e j hj).2.1, ?_⟩
    rw [upd_at]
    unfold cnt
    by_cases ee : e = ix (pr t K) m
    · rw [if_pos ee]
      have hj' : j = pr t K m := by rw [ee, ix_at] at hj; exact (Option.some.inj hj).symm
      rw [if_pos hj'.symm, (c2 (ix (pr t K) m) (pr t K m) (ix_at _ _)).2.2, nI_1, hj']
    · rw [if_neg ee, if_neg (fun z => ee (fo_inj hj (by rw [← z]; exact ix_at _ _)))]; exact (c2 e j hj).2.2
/-- how many places have a context -/
def np (n K : Nat) : Nat := n - K
theorem follow_c {σ : SS} {t : Nat → Nat} {n K : Nat} (h : Tc σ t n) (hK : K ≤ 3) (ho : σ.1 3 = nI K) (hs : σ.1 6 = σ.1 1 → Cx σ t K (np n K)) :
    ∃ σ', f_c_X0_follow σ = some ((), σ') ∧ fr [4, 5, 6] [3, 4, 5, 6, 7] σ σ' ∧ Cx σ' t K (np n K) ∧ σ'.1 6 = σ.1 1 := by
  have hn := h.2.1
  unfold f_c_X0_follow
  by_cases q : σ.1 6 = σ.1 1
  · rw [if_pos q]
    exact ⟨σ, rfl, fr.rf σ, hs q, q⟩
  · rw [if_neg q]
    have f0 : fr [4, 5, 6] [] σ (putI (putI (putI σ 6 (σ.1 1)) 4 0) 5 0) := (((fr.rf σ).pI (by decide)).pI (by decide)).pI (by decide)
    rw [show (putI (putI (putI σ 6 (σ.1 1)) 4 0) 5 0).1 3 = nI (K + 0) from ho]
    refine L1_rule (I := fun k σ1 x => ∃ m, m + k = np n K ∧ x = nI (K + m) ∧ fr [4, 5, 6] [3, 4, 5, 6, 7] σ σ1 ∧ σ1.1 6 = σ.1 1 ∧ Cx σ1 t K m) (O := fun o => ∃ σ', o = some ((), σ') ∧ fr [4, 5, 6] [3, 4, 5, 6, 7] σ σ' ∧ Cx σ' t K (np n K) ∧ σ'.1 6 = σ.1 1) ?_ FUEL (np n K) _ _ (by unfold FUEL np; omega) ⟨0, by omega, rfl, f0.up (by decide) (by decide), rfl, ⟨i_0, i_0, fun c x hc => (by cases hc), fun e j hj => (by cases hj)⟩⟩
    rintro g k σ1 x ⟨m, hm, rfl, f1, h6, hx⟩ ih
    have h1 := h.fr f1 (by decide) (by decide) (by decide)
    by_cases z : K + m < n
    · obtain ⟨σ2, e2, f2, hx2⟩ := follow_step h1 hK (by rw [f1.1 3 (by decide)]; exact ho) z hx g
      rw [e2]
      exact ih (k - 1) _ _ (by unfold np at hm; omega) ⟨m + 1, by unfold np at hm ⊢; omega, rfl, f1.tr (f2.up (by decide) (by decide)), by rw [f2.1 6 (by decide)]; exact h6, hx2⟩
    · unfold f_c_X0_follow_35
      rw [if_pos (by rw [h1.1]; unfold np at hm; exact nI_le (by omega) (by omega))]
      have : m = np n K := by unfold np at hm ⊢; omega
      subst this
      exact ⟨σ1, rfl, f1, hx, h6⟩
