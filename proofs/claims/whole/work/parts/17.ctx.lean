/-! contexts: first occurrences -/
/-- the place of x in l, or l's length -/
def fi (x : Nat) : List Nat → Nat
  | [] => 0
  | a :: l => if a = x then 0 else fi x l + 1
theorem fi_le (x : Nat) (l : List Nat) : fi x l ≤ l.length := by
  induction l with
  | nil => exact Nat.le_refl 0
  | cons a l ih => unfold fi; split <;> simp <;> omega
theorem fi_at {x : Nat} {l : List Nat} (h : fi x l < l.length) : l[fi x l]? = some x := by
  induction l with
  | nil => exact absurd h (Nat.not_lt_zero _)
  | cons a l ih =>
    unfold fi at h ⊢
    by_cases q : a = x
    · rw [if_pos q, q]; rfl
    · rw [if_neg q] at h ⊢
      simp only [List.length_cons] at h
      rw [List.getElem?_cons_succ]; exact ih (by omega)
theorem fi_ne {x j : Nat} {l : List Nat} (h : j < fi x l) : l[j]? ≠ some x := by
  induction l generalizing j with
  | nil => exact absurd h (Nat.not_lt_zero _)
  | cons a l ih =>
    unfold fi at h
    by_cases q : a = x
    · rw [if_pos q] at h; exact absurd h (Nat.not_lt_zero _)
    · rw [if_neg q] at h
      cases j with
      | zero => simpa using q
      | succ j => rw [List.getElem?_cons_succ]; exact ih (by omega)
theorem fi_mem {x : Nat} {l : List Nat} : fi x l < l.length ↔ x ∈ l := by
  constructor
  · intro h; exact List.mem_of_getElem? (fi_at h)
  · intro h
    rcases Nat.lt_or_ge (fi x l) l.length with q | q
    · exact q
    · obtain ⟨j, hj⟩ := List.getElem?_of_mem h
      have : j < l.length := (List.getElem?_eq_some_iff.mp hj).1
      exact absurd hj (fi_ne (by omega))
/-- distinct values in the order in which they come first -/
def fo (v : Nat → Nat) : Nat → List Nat
  | 0 => []
  | m + 1 => if fi (v m) (fo v m) < (fo v m).length then fo v m else fo v m ++ [v m]
def ix (v : Nat → Nat) (m : Nat) : Nat := fi (v m) (fo v m)
theorem fo_s (v : Nat → Nat) (m : Nat) : fo v (m + 1) = if fi (v m) (fo v m) < (fo v m).length then fo v m else fo v m ++ [v m] := rfl
theorem fo_len (v : Nat → Nat) (m : Nat) : (fo v m).length ≤ m := by
  induction m with
  | zero => exact Nat.le_refl 0
  | succ m ih =>
    rw [fo_s]
    split
    · omega
    · rw [List.length_append]; simp; omega
theorem fo_old {v : Nat → Nat} {m c x : Nat} (h : (fo v m)[c]? = some x) : (fo v (m + 1))[c]? = some x := by
  rw [fo_s]
  split
  · exact h
  · rw [List.getElem?_append_left (List.getElem?_eq_some_iff.mp h).1]; exact h
theorem ix_lt (v : Nat → Nat) (m : Nat) : ix v m < (fo v (m + 1)).length := by
  rw [fo_s]
  unfold ix
  split
  · assumption
  · have hq := fi_le (v m) (fo v m); rw [List.length_append]; simp; omega
theorem ix_at (v : Nat → Nat) (m : Nat) : (fo v (m + 1))[ix v m]? = some (v m) := by
  rw [fo_s]
  unfold ix
  split
  · exact fi_at ‹_›
  · have h := fi_le (v m) (fo v m)
    have e : fi (v m) (fo v m) = (fo v m).length := by omega
    rw [e, List.getElem?_append_right (Nat.le_refl _), Nat.sub_self]; rfl
theorem fo_mem {v : Nat → Nat} {m x : Nat} : x ∈ fo v m ↔ ∃ q, q < m ∧ v q = x := by
  induction m with
  | zero => constructor
            · intro h; exact absurd h List.not_mem_nil
            · rintro ⟨q, h, -⟩; exact absurd h (Nat.not_lt_zero q)
  | succ m ih =>
    rw [fo_s]
    split
    · rename_i h
      constructor
      · intro hx; obtain ⟨q, h1, h2⟩ := ih.mp hx; exact ⟨q, by omega, h2⟩
      · rintro ⟨q, h1, h2⟩
        by_cases e : q = m
        · subst e; rw [← h2]; exact fi_mem.mp h
        · exact ih.mpr ⟨q, by omega, h2⟩
    · constructor
      · intro hx
        rcases List.mem_append.mp hx with hx | hx
        · obtain ⟨q, h1, h2⟩ := ih.mp hx; exact ⟨q, by omega, h2⟩
        · exact ⟨m, by omega, (List.mem_singleton.mp hx).symm⟩
      · rintro ⟨q, h1, h2⟩
        by_cases e : q = m
        · subst e; rw [← h2]; exact List.mem_append_right _ (List.mem_singleton.mpr rfl)
        · exact List.mem_append_left _ (ih.mpr ⟨q, by omega, h2⟩)
theorem fo_inj {v : Nat → Nat} {m a b x : Nat} (ha : (fo v m)[a]? = some x) (hb : (fo v m)[b]? = some x) : a = b := by
  induction m generalizing a b x with
  | zero => cases ha
  | succ m ih =>
    rw [fo_s] at ha hb
    split at ha
    · rename_i h
      rw [if_pos h] at hb
      exact ih ha hb
    · rename_i h
      rw [if_neg h] at hb
      have key : ∀ c, (fo v m ++ [v m])[c]? = some x → (c < (fo v m).length ∧ (fo v m)[c]? = some x) ∨ (c = (fo v m).length ∧ x = v m) := by
        intro c hc
        rcases Nat.lt_or_ge c (fo v m).length with q | q
        · rw [List.getElem?_append_left q] at hc; exact Or.inl ⟨q, hc⟩
        · rw [List.getElem?_append_right q] at hc
          have h0 : c - (fo v m).length < [v m].length := (List.getElem?_eq_some_iff.mp hc).1
          simp only [List.length_cons, List.length_nil] at h0
          have e0 : c - (fo v m).length = 0 := by omega
          rw [e0] at hc
          exact Or.inr ⟨by omega, (Option.some.inj hc).symm⟩
      have hn : ¬ v m ∈ fo v m := fun q => h (fi_mem.mpr q)
      rcases key a ha with ⟨h1, h2⟩ | ⟨h1, h2⟩ <;> rcases key b hb with ⟨h3, h4⟩ | ⟨h3, h4⟩
      · exact ih h2 h4
      · subst h4; exact absurd (List.mem_of_getElem? h2) hn
      · subst h2; exact absurd (List.mem_of_getElem? h4) hn
      · omega
theorem cnt_pos {t : Nat → Nat} {s m : Nat} : 0 < cnt t s m ↔ ∃ q, q < m ∧ t q = s := by
  induction m with
  | zero => constructor
            · intro h; exact absurd h (Nat.lt_irrefl 0)
            · rintro ⟨q, h, -⟩; exact absurd h (Nat.not_lt_zero q)
  | succ m ih =>
    unfold cnt
    by_cases e : t m = s
    · rw [if_pos e]; exact ⟨fun _ => ⟨m, by omega, e⟩, fun _ => by omega⟩
    · rw [if_neg e]
      constructor
      · intro h; obtain ⟨q, h1, h2⟩ := ih.mp h; exact ⟨q, by omega, h2⟩
      · rintro ⟨q, h1, h2⟩
        have : q ≠ m := fun z => e (z ▸ h2)
        exact ih.mpr ⟨q, by omega, h2⟩
/-- the code of k signs from s on -/
def cdk (t : Nat → Nat) (s : Nat) : Nat → Nat
  | 0 => 0
  | k + 1 => cdk t s k * 16 + t (s + k)
theorem cdk_lt {t : Nat → Nat} {s k : Nat} (h : ∀ j, j < k → t (s + j) < 16) : cdk t s k < 16 ^ k := by
  induction k with
  | zero => show 0 < 1; decide
  | succ k ih =>
    unfold cdk
    have h1 := ih (fun j hj => h j (by omega))
    have h2 := h k (by omega)
    rw [Nat.pow_succ]; omega
theorem cdk_inj {t : Nat → Nat} {a b k : Nat} (ha : ∀ j, j < k → t (a + j) < 16) (hb : ∀ j, j < k → t (b + j) < 16) : cdk t a k = cdk t b k ↔ ∀ j, j < k → t (a + j) = t (b + j) := by
  induction k with
  | zero => exact ⟨fun _ j hj => absurd hj (Nat.not_lt_zero j), fun _ => rfl⟩
  | succ k ih =>
    unfold cdk
    have h1 := ha k (by omega)
    have h2 := hb k (by omega)
    have ih := ih (fun j hj => ha j (by omega)) (fun j hj => hb j (by omega))
    constructor
    · intro e j hj
      have e1 : cdk t a k = cdk t b k := by omega
      have e2 : t (a + k) = t (b + k) := by omega
      by_cases q : j = k
      · subst q; exact e2
      · exact ih.mp e1 j (by omega)
    · intro e
      have e1 := ih.mpr (fun j hj => e j (by omega))
      have e2 := e k (by omega)
      omega
/-- the code before place K + m -/
def cv (t : Nat → Nat) (K : Nat) (m : Nat) : Nat := cdk t m K
/-- context and sign at place K + m, in one number -/
def pr (t : Nat → Nat) (K : Nat) (m : Nat) : Nat := 16 * ix (cv t K) m + t (K + m)
theorem nI_or {a b : Nat} (hb : b < 16) (ha : a < 2 ^ 20) : nI a <<< ((4 : Int32) &&& 31) ||| nI b = nI (a * 16 + b) := by
  rw [pk_shlN (4 &&& 31) 4 (by decide) (by omega)]
  have h1 : nI (a * 2 ^ 4) ||| nI b = nI ((a * 2 ^ 4) ||| b) := by
    apply Int32.toBitVec_inj.mp
    apply BitVec.eq_of_toNat_eq
    show (BitVec.ofNat 32 _ ||| BitVec.ofNat 32 _).toNat = (BitVec.ofNat 32 _).toNat
    rw [BitVec.toNat_or, BitVec.toNat_ofNat, BitVec.toNat_ofNat, BitVec.toNat_ofNat, ← Nat.or_mod_two_pow]
  rw [h1]
  congr 1
  have h2 := Nat.shiftLeft_add_eq_or_of_lt (i := 4) (b := b) (by omega) a
  rw [Nat.shiftLeft_eq] at h2
  omega
theorem codeBefore_c {σ : SS} {t : Nat → Nat} {n K m : Nat} (h : Tc σ t n) (hK : K ≤ 3) (ho : σ.1 3 = nI K) (hm : K + m < n) : f_c_X0_codeBefore σ (nI (K + m)) = some (nI (cv t K m), σ) := by
  have hn := h.2.1
  unfold f_c_X0_codeBefore
  rw [ho, pk_sub (by omega), show K + m - K = m by omega]
  refine L3_rule (I := fun k σ1 x1 x2 x3 => ∃ i, i + k = K ∧ x1 = nI (K + m) ∧ x2 = nI (cdk t m i) ∧ x3 = nI (m + i) ∧ σ1 = σ) (O := fun o => o = some (nI (cv t K m), σ)) ?_ FUEL K σ _ _ _ (by unfold FUEL; omega) ⟨0, by omega, rfl, i_0, rfl, rfl⟩
  rintro g k σ1 x1 x2 x3 ⟨i, hi, rfl, rfl, rfl, rfl⟩ ih
  unfold f_c_X0_codeBefore_10
  by_cases q : i < K
  · have hlt : cdk t m i < 16 ^ i := cdk_lt (fun j hj => (h.2.2.1 (m + j) (by omega)).1)
    have hp : 16 ^ i ≤ 16 ^ 3 := Nat.pow_le_pow_right (by decide) (by omega)
    have hx := h.2.2.1 (m + i) (by omega)
    rw [if_neg (fun z => nI_ge (show m + i < K + m by omega) (by omega) z), gd_nI (show m + i < 400 by omega) (by decide), nI_1, nI_clamp (by omega), hx.2, nI_or hx.1 (by omega)]
    exact ih (k - 1) _ _ _ _ (by omega) ⟨i + 1, by omega, rfl, rfl, rfl, rfl⟩
  · have : i = K := by omega
    subst this
    rw [if_pos (nI_le (show i + m ≤ m + i by omega) (by omega))]
    rfl
/-- the class's contexts behind m places -/
def Cx (σ : SS) (t : Nat → Nat) (K m : Nat) : Prop :=
  σ.1 4 = nI (fo (cv t K) m).length ∧ σ.1 5 = nI (fo (pr t K) m).length ∧ (∀ c x, (fo (cv t K) m)[c]? = some x → σ.2 3 c = nI x ∧ σ.2 4 c = nI (cnt (ix (cv t K)) c m)) ∧
  ∀ e j, (fo (pr t K) m)[e]? = some j → σ.2 5 e = nI (j / 16) ∧ σ.2 6 e = nI (j % 16) ∧ σ.2 7 e = nI (cnt (pr t K) j m)
theorem Cx.fr {I A : List Nat} {σ σ' : SS} {t : Nat → Nat} {K m : Nat} (h : Cx σ t K m) (f : fr I A σ σ') (h0 : 4 ∉ I ∧ 5 ∉ I) (h1 : 3 ∉ A ∧ 4 ∉ A ∧ 5 ∉ A ∧ 6 ∉ A ∧ 7 ∉ A) : Cx σ' t K m := ⟨(f.1 4 h0.1).trans h.1, (f.1 5 h0.2).trans h.2.1, fun c x hc => by rw [f.2 3 h1.1, f.2 4 h1.2.1]; exact h.2.2.1 c x hc, fun e j hj => by rw [f.2 5 h1.2.2.1, f.2 6 h1.2.2.2.1, f.2 7 h1.2.2.2.2]; exact h.2.2.2 e j hj⟩
theorem fo_mono {v : Nat → Nat} {q m : Nat} (h : q ≤ m) : (fo v q).length ≤ (fo v m).length := by
  induction m with
  | zero => have : q = 0 := by omega
            rw [this]; exact Nat.le_refl _
  | succ m ih =>
    by_cases e : q = m + 1
    · rw [e]; exact Nat.le_refl _
    · have h1 := ih (by omega)
      rw [fo_s]
      split
      · exact h1
      · rw [List.length_append]; omega
theorem ix_lt' {v : Nat → Nat} {q m : Nat} (h : q < m) : ix v q < (fo v m).length := Nat.lt_of_lt_of_le (ix_lt v q) (fo_mono h)
theorem cnt_new {v : Nat → Nat} {m : Nat} : cnt (ix v) (fo v m).length m = 0 := by
  rcases Nat.eq_zero_or_pos (cnt (ix v) (fo v m).length m) with h | h
  · exact h
  · obtain ⟨q, h1, h2⟩ := cnt_pos.mp h
    have := ix_lt' (v := v) h1
    omega
theorem cnt_newv {v : Nat → Nat} {m : Nat} (h : ¬ fi (v m) (fo v m) < (fo v m).length) : cnt v (v m) m = 0 := by
  rcases Nat.eq_zero_or_pos (cnt v (v m) m) with q | q
  · exact q
  · exact absurd (fi_mem.mpr (fo_mem.mpr (cnt_pos.mp q))) h
theorem cv_lt {t : Nat → Nat} {n K q : Nat} (ht : ∀ i, i < n → t i < 16) (hK : K ≤ 3) (hq : K + q ≤ n) : cv t K q < 4096 := by
  have h := cdk_lt (t := t) (s := q) (k := K) (fun j hj => ht (q + j) (by omega))
  have hp : 16 ^ K ≤ 16 ^ 3 := Nat.pow_le_pow_right (by decide) hK
  unfold cv
  omega
theorem fo_get {v : Nat → Nat} {m i : Nat} (h : i < (fo v m).length) : ∃ x, (fo v m)[i]? = some x ∧ ∃ q, q < m ∧ v q = x := by
  refine ⟨(fo v m)[i], List.getElem?_eq_getElem h, ?_⟩
  exact fo_mem.mp (List.getElem_mem h)
/-- a known number of a context, or a new one -/
theorem numberOf_c {σ : SS} {t : Nat → Nat} {n K m : Nat} (h : Tc σ t n) (hK : K ≤ 3) (hm : K + m < n) (hx : Cx σ t K m) :
    ∃ σ', f_c_X0_numberOf σ (nI (cv t K m)) = some (nI (ix (cv t K) m), σ') ∧ fr [4] [3, 4] σ σ' ∧ σ'.1 4 = nI (fo (cv t K) (m + 1)).length ∧ ∀ c x, (fo (cv t K) (m + 1))[c]? = some x → σ'.2 3 c = nI x ∧ σ'.2 4 c = nI (cnt (ix (cv t K)) c m) := by
  have hn := h.2.1
  have ht : ∀ i, i < n → t i < 16 := fun i hi => (h.2.2.1 i hi).1
  have hle := fi_le (cv t K m) (fo (cv t K) m)
  have hlen := fo_len (cv t K) m
  have hvm := cv_lt ht hK (show K + m ≤ n by omega)
  unfold f_c_X0_numberOf
  refine L2_rule (I := fun k σ1 x1 x2 => ∃ i, i + k = (fo (cv t K) m).length ∧ i ≤ ix (cv t K) m ∧ x1 = nI (cv t K m) ∧ x2 = nI i ∧ σ1 = σ) (O := fun o => ∃ σ', o = some (nI (ix (cv t K) m), σ') ∧ fr [4] [3, 4] σ σ' ∧ σ'.1 4 = nI (fo (cv t K) (m + 1)).length ∧ ∀ c x, (fo (cv t K) (m + 1))[c]? = some x → σ'.2 3 c = nI x ∧ σ'.2 4 c = nI (cnt (ix (cv t K)) c m)) ?_ FUEL (fo (cv t K) m).length σ _ _ (by unfold FUEL; omega) ⟨0, by omega, Nat.zero_le _, rfl, i_0, rfl⟩
  rintro g k σ1 x1 x2 ⟨i, hi, hix, rfl, rfl, rfl⟩ ih
  unfold f_c_X0_numberOf_2
  rw [hx.1]
  by_cases q : i < (fo (cv t K) m).length
  · obtain ⟨x, hxi, qq, hq1, hq2⟩ := fo_get q
    have hxb : x < 4096 := by rw [← hq2]; exact cv_lt ht hK (by omega)
    rw [if_neg (fun z => nI_ge q (by omega) z), gd_nI (show i < 400 by omega) (by decide), nI_clamp (by omega), (hx.2.2.1 i x hxi).1]
    by_cases e : x = cv t K m
    · subst e
      have hii : i = ix (cv t K) m := by
        rcases Nat.lt_or_ge i (ix (cv t K) m) with z | z
        · exact absurd hxi (fi_ne z)
        · omega
      have hlt : fi (cv t K m) (fo (cv t K) m) < (fo (cv t K) m).length := by unfold ix at hii; omega
      rw [if_pos rfl]
      refine ⟨σ1, by rw [hii], fr.rf _, ?_, ?_⟩
      · rw [fo_s, if_pos hlt]; exact hx.1
      · rw [fo_s, if_pos hlt]; exact hx.2.2.1
    · rw [if_neg (fun z => e ((nI_eq (by omega) (by omega)).mp z)), nI_1]
      have hne : i ≠ ix (cv t K) m := fun z => by
        unfold ix at z
        rw [z] at hxi
        have := fi_at (x := cv t K m) (l := fo (cv t K) m) (by omega)
        rw [this] at hxi
        exact e (Option.some.inj hxi).symm
      exact ih (k - 1) _ _ _ (by omega) ⟨i + 1, by omega, by omega, rfl, rfl, rfl⟩
  · have hii : i = ix (cv t K) m := by unfold ix at hix ⊢; omega
    have hlt : ¬ fi (cv t K m) (fo (cv t K) m) < (fo (cv t K) m).length := by unfold ix at hii; omega
    have hil : i = (fo (cv t K) m).length := by omega
    rw [if_pos (nI_le (by omega) (by omega)), ← hil, gd_nI (show i < 400 by omega) (by decide)]
    rw [show (putA σ1 3 (nI i).toNatClampNeg (nI (cv t K m))).1 4 = nI i from by rw [putA_1, hx.1, hil], gd_nI (show i < 400 by omega) (by decide), nI_clamp (by omega)]
    refine ⟨_, by rw [show (putA (putA σ1 3 i (nI (cv t K m))) 4 i 0).1 4 = nI i from by rw [putA_1, putA_1, hx.1, hil], hii], ?_, ?_, ?_⟩
    · exact (((fr.rf σ1).pA (by decide)).pA (by decide)).pI (by decide)
    · show nI _ + 1 = _
      rw [nI_1, fo_s, if_neg hlt, List.length_append, ← hii, hil]; rfl
    · rw [fo_s, if_neg hlt]
      intro c x hc
      show upd (σ1.2 3) _ _ c = _ ∧ upd (σ1.2 4) _ _ c = _
      rw [← hii, upd_at, upd_at]
      by_cases e : c = i
      · rw [if_pos e, if_pos e]
        rw [e, hil, List.getElem?_append_right (Nat.le_refl _), Nat.sub_self] at hc
        refine ⟨by rw [← Option.some.inj hc], ?_⟩
        rw [e, hil, cnt_new]; exact i_0
      · rw [if_neg e, if_neg e]
        have hcl : c < (fo (cv t K) m).length := by
          have := (List.getElem?_eq_some_iff.mp hc).1
          rw [List.length_append] at this
          simp only [List.length_cons, List.length_nil] at this
          omega
        rw [List.getElem?_append_left hcl] at hc
        exact hx.2.2.1 c x hc
