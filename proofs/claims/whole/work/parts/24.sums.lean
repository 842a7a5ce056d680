/-! sums of costs -/
theorem cnt_s (t : Nat → Nat) (s n : Nat) : cnt t s (n + 1) = cnt t s n + (if t n = s then 1 else 0) := rfl
theorem wsum_congr {f g : Nat → Nat} {N : Nat} (h : ∀ j, j < N → f j = g j) : wsum f N = wsum g N := by
  induction N with
  | zero => rfl
  | succ N ih => unfold wsum; rw [ih (fun j hj => h j (by omega)), h N (by omega)]
theorem wsum_0 (N : Nat) : wsum (fun _ => 0) N = 0 := by
  induction N with
  | zero => rfl
  | succ N ih => unfold wsum; rw [ih]
def lsum (G : Nat → Nat) : List Nat → Nat
  | [] => 0
  | a :: l => G a + lsum G l
theorem lsum_app (G : Nat → Nat) (l : List Nat) (x : Nat) : lsum G (l ++ [x]) = lsum G l + G x := by
  induction l with
  | nil => simp [lsum]
  | cons a l ih => simp only [List.cons_append, lsum, ih]; omega
/-- a sum over first occurrences is a sum over all numbers below a bound -/
theorem fo_sum {v : Nat → Nat} {m N : Nat} (G : Nat → Nat) (h : ∀ q, q < m → v q < N) : lsum G (fo v m) = wsum (fun j => if j ∈ fo v m then G j else 0) N := by
  induction m with
  | zero =>
    show lsum G [] = wsum (fun j => if j ∈ ([] : List Nat) then G j else 0) N
    rw [wsum_congr (f := fun j => if j ∈ ([] : List Nat) then G j else 0) (g := fun _ => 0) (fun j _ => if_neg List.not_mem_nil), wsum_0]; rfl
  | succ m ih =>
    have ih := ih (fun q hq => h q (by omega))
    rw [fo_s]
    by_cases q : fi (v m) (fo v m) < (fo v m).length
    · rw [if_pos q]; exact ih
    · rw [if_neg q, lsum_app, ih]
      have hn : ¬ v m ∈ fo v m := fun z => q (fi_mem.mpr z)
      have hs := wsum_set (w := fun j => if j ∈ fo v m then G j else 0) (n := N) (s := v m) (v := G (v m)) (h m (by omega))
      rw [if_neg hn, Nat.add_zero] at hs
      rw [← hs]
      apply wsum_congr
      intro j hj
      unfold tset
      by_cases e : j = v m
      · rw [if_pos e, if_pos (List.mem_append_right _ (List.mem_singleton.mpr e)), e]
      · rw [if_neg e]
        show (if j ∈ fo v m then G j else 0) = _
        by_cases z : j ∈ fo v m
        · rw [if_pos z, if_pos (List.mem_append_left _ z)]
        · rw [if_neg z, if_neg (fun y => (List.mem_append.mp y).elim z (fun y => e (List.mem_singleton.mp y)))]
theorem cnt_imp {a b : Nat → Nat} {x y m : Nat} (h : ∀ q, q < m → a q = x → b q = y) : cnt a x m ≤ cnt b y m := by
  induction m with
  | zero => exact Nat.le_refl 0
  | succ m ih =>
    have ih := ih (fun q hq => h q (by omega))
    unfold cnt
    by_cases e : a m = x
    · rw [if_pos e, if_pos (h m (by omega) e)]; omega
    · rw [if_neg e]; omega
theorem wsum_le2 {f : Nat → Nat} {N B : Nat} (h : ∀ i, i < N → f i ≤ B) : wsum f N ≤ N * B := wsum_le h
theorem lsum_le {G : Nat → Nat} {l : List Nat} {B : Nat} (h : ∀ x ∈ l, G x ≤ B) : lsum G l ≤ l.length * B := by
  induction l with
  | nil => exact Nat.zero_le _
  | cons a l ih =>
    have h1 := ih (fun x hx => h x (List.mem_cons_of_mem _ hx))
    have h2 := h a List.mem_cons_self
    show G a + lsum G l ≤ (l.length + 1) * B
    rw [Nat.succ_mul]; omega
theorem lsum_take {G : Nat → Nat} {l : List Nat} {i j : Nat} (h : l[i]? = some j) : lsum G (l.take (i + 1)) = lsum G (l.take i) + G j := by
  rw [List.take_add_one, h]
  exact lsum_app G _ j
theorem often_m {τ : SS} {t : Nat → Nat} {n s m : Nat} (h : Tm τ t n) (hs : s < 16) (hm : m ≤ n) : f_m_X12_often τ (nI s) (nI m) = some (nI (cnt t s m), τ) := by
  have hn := h.2.1
  unfold f_m_X12_often
  refine L4_rule (I := fun k τ1 x1 x2 x3 x4 => ∃ i, i + k = m ∧ x1 = nI s ∧ x2 = nI m ∧ x3 = nI (cnt t s i) ∧ x4 = nI i ∧ τ1 = τ) (O := fun o => o = some (nI (cnt t s m), τ)) ?_ FUEL m τ _ _ _ _ (by unfold FUEL; omega) ⟨0, by omega, rfl, rfl, i_0, i_0, rfl⟩
  rintro g k τ1 x1 x2 x3 x4 ⟨i, hi, rfl, rfl, rfl, rfl, rfl⟩ ih
  unfold f_m_X12_often_5
  by_cases q : i < m
  · have ht := h.2.2 i (by omega)
    rw [if_neg (fun z => nI_ge q (by omega) z), gd_nI (show i < 400 by omega) (by decide), nI_clamp (by omega), ht.2, nI_1]
    by_cases e : t i = s
    · rw [if_pos (by rw [e]), nI_1]
      exact ih (k - 1) _ _ _ _ _ (by omega) ⟨i + 1, by omega, rfl, rfl, by rw [cnt_s, if_pos e], rfl, rfl⟩
    · rw [if_neg (fun z => e ((nI_eq (by omega) (by omega)).mp z)), i_0, nI_add, nI_1]
      exact ih (k - 1) _ _ _ _ _ (by omega) ⟨i + 1, by omega, rfl, rfl, by rw [cnt_s, if_neg e], rfl, rfl⟩
  · have : i = m := by omega
    subst this
    rw [if_pos (nI_le (Nat.le_refl _) (by omega))]
/-- CONTENT: one entry's cost -/
def GC (t : Nat → Nat) (n K u d : Nat) (j : Nat) : Nat := cnt (pr t K) j (np n K) * CO u (cnt (pr t K) j (np n K)) (cnt (ix (cv t K)) (j / 16) (np n K)) d
def SC (t : Nat → Nat) (n K u d : Nat) : Nat := lsum (GC t n K u d) (fo (pr t K) (np n K))
theorem pr_div {t : Nat → Nat} {n K q : Nat} (ht : ∀ i, i < n → t i < 16) (hq : K + q < n) : pr t K q / 16 = ix (cv t K) q ∧ pr t K q < 16 * (ix (cv t K) q + 1) := by
  have := ht (K + q) hq
  unfold pr
  omega
theorem part_le {t : Nat → Nat} {n K j : Nat} (ht : ∀ i, i < n → t i < 16) : cnt (pr t K) j (np n K) ≤ cnt (ix (cv t K)) (j / 16) (np n K) :=
  cnt_imp (fun q hq e => by rw [← e]; exact (pr_div ht (by unfold np at hq; omega)).1.symm)
theorem content_c {σ : SS} {t : Nat → Nat} {n K u d : Nat} (h : Tc σ t n) (hx : Cx σ t K (np n K)) (hd : d ≤ 24) (hu : u ≤ 1) (hL : Lg σ) : ∃ σ', f_c_X1_content σ (nI d) (nI u) = some (lN (SC t n K u d), σ') ∧ fr [] [8] σ σ' ∧ Lg σ' := by
  have hn := h.2.1
  have ht : ∀ i, i < n → t i < 16 := fun i hi => (h.2.2.1 i hi).1
  have hlen := fo_len (pr t K) (np n K)
  have hnp : np n K ≤ 400 := by unfold np; omega
  unfold f_c_X1_content
  refine L4_rule (I := fun k σ1 x1 x2 x3 x4 => ∃ i, i + k = (fo (pr t K) (np n K)).length ∧ x1 = nI d ∧ x2 = nI u ∧ x3 = lN (lsum (GC t n K u d) ((fo (pr t K) (np n K)).take i)) ∧ x4 = nI i ∧ fr [] [8] σ σ1 ∧ Lg σ1) (O := fun o => ∃ σ', o = some (lN (SC t n K u d), σ') ∧ fr [] [8] σ σ' ∧ Lg σ') ?_ FUEL (fo (pr t K) (np n K)).length σ _ _ _ _ (by unfold FUEL; omega) ⟨0, by omega, rfl, rfl, j_0, i_0, fr.rf σ, hL⟩
  rintro g k σ1 x1 x2 x3 x4 ⟨i, hi, rfl, rfl, rfl, rfl, hf, hL1⟩ ih
  have hx1 := hx.fr hf (by decide) (by decide)
  by_cases q : i < (fo (pr t K) (np n K)).length
  · obtain ⟨j, hj, b, b1, b2⟩ := fo_get q
    obtain ⟨a1, a2, a3⟩ := hx1.2.2.2 i j hj
    have hpd := pr_div (K := K) (q := b) ht (by unfold np at b1; omega)
    have hixb := ix_lt' (v := cv t K) b1
    have hlc := fo_len (cv t K) (np n K)
    have hjd : j / 16 = ix (cv t K) b := by rw [← b2]; exact hpd.1
    obtain ⟨v, hv, -⟩ := fo_get (v := cv t K) (m := np n K) (i := j / 16) (by omega)
    have hall := (hx1.2.2.1 _ v hv).2
    have p1 : 0 < cnt (pr t K) j (np n K) := cnt_pos.mpr ⟨b, b1, b2⟩
    have p2 := part_le (K := K) (j := j) ht
    have p3 := cnt_le (ix (cv t K)) (j / 16) (np n K)
    unfold f_c_X1_content_6
    rw [if_neg (by rw [hx1.2.1]; exact fun z => nI_ge q (by omega) z), gd_nI (show i < 400 by omega) (by decide), gd_nI (show i < 400 by omega) (by decide), nI_clamp (by omega), a1, gd_nI (show j / 16 < 400 by omega) (by decide), nI_clamp (by omega), a3, hall]
    obtain ⟨σ2, e2, f2, L2⟩ := partIn_c (σ := σ1) (u := u) (a := cnt (pr t K) j (np n K)) (b := cnt (ix (cv t K)) (j / 16) (np n K)) (d := d) p1 p2 (by omega) hd hu hL1
    rw [e2, bd_s, nI_l (by omega), lN_mul, lN_add, nI_1]
    refine ih (k - 1) _ _ _ _ _ (by omega) ⟨i + 1, by omega, rfl, rfl, ?_, rfl, hf.tr f2, L2⟩
    rw [lsum_take hj]; rfl
  · have : i = (fo (pr t K) (np n K)).length := by omega
    unfold f_c_X1_content_6
    rw [if_pos (by rw [hx1.2.1]; exact nI_le (by omega) (by omega)), this, List.take_length]
    exact ⟨σ1, rfl, hf, hL1⟩
/-- .. the reference's sum over all places below 16 times the contexts -/
theorem content_m {τ : SS} {t : Nat → Nat} {n K u d : Nat} (h : Tm τ t n) (hK : K ≤ 3) (hk : τ.1 2 = nI K) (hd : d ≤ 24) (hu : u ≤ 1) : ∃ τ', f_m_X12_content τ (nI d) (nI u) = some (lN (SC t n K u d), τ') ∧ fr [3] [2, 3, 4] τ τ' := by
  have hn := h.2.1
  have ht : ∀ i, i < n → t i < 16 := fun i hi => (h.2.2 i hi).1
  have hlen := fo_len (cv t K) (np n K)
  have hnp : np n K ≤ 400 := by unfold np; omega
  obtain ⟨τ1, e1, f1, hx⟩ := findContexts_m h hK hk
  unfold f_m_X12_content
  rw [e1, bd_s]
  -- the whole sum
  have hsum : SC t n K u d = wsum (fun j => if 0 < cnt (pr t K) j (np n K) then GC t n K u d j else 0) (16 * (fo (cv t K) (np n K)).length) := by
    unfold SC
    rw [fo_sum (N := 16 * (fo (cv t K) (np n K)).length) (GC t n K u d) (fun q hq => by
      have a := pr_div (K := K) (q := q) ht (by unfold np at hq; omega)
      have b := ix_lt' (v := cv t K) hq
      omega)]
    apply wsum_congr
    intro j _
    by_cases z : j ∈ fo (pr t K) (np n K)
    · rw [if_pos z, if_pos (cnt_pos.mpr (fo_mem.mp z))]
    · rw [if_neg z, if_neg (fun y => z (fo_mem.mpr (cnt_pos.mp y)))]
  -- the inner loop
  have inner : ∀ (g : SS → Int32 → Int32 → Int64 → Int32 → Option (Int64 × SS)) (c S : Nat), c < (fo (cv t K) (np n K)).length → S = wsum (fun j => if 0 < cnt (pr t K) j (np n K) then GC t n K u d j else 0) (16 * c) →
      L5 (f_m_X12_content_21 g) FUEL τ1 (nI d) (nI u) (lN S) (nI c) 0 = g τ1 (nI d) (nI u) (lN (wsum (fun j => if 0 < cnt (pr t K) j (np n K) then GC t n K u d j else 0) (16 * (c + 1)))) (nI (c + 1)) := by
    intro g c S hc hS
    obtain ⟨v, hv, -⟩ := fo_get hc
    have hall := (hx.2.1 c v hv).2
    refine L5_rule (I := fun k τ2 x1 x2 x3 x4 x5 => ∃ i, i + k = 16 ∧ x1 = nI d ∧ x2 = nI u ∧ x3 = lN (wsum (fun j => if 0 < cnt (pr t K) j (np n K) then GC t n K u d j else 0) (16 * c + i)) ∧ x4 = nI c ∧ x5 = nI i ∧ τ2 = τ1) (O := fun o => o = g τ1 (nI d) (nI u) (lN (wsum (fun j => if 0 < cnt (pr t K) j (np n K) then GC t n K u d j else 0) (16 * (c + 1)))) (nI (c + 1))) ?_ FUEL 16 τ1 _ _ _ _ _ (by decide) ⟨0, rfl, rfl, rfl, by rw [hS]; rfl, rfl, i_0, rfl⟩
    rintro g2 k τ2 x1 x2 x3 x4 x5 ⟨i, hi, rfl, rfl, rfl, rfl, rfl, rfl⟩ ih
    unfold f_m_X12_content_21
    by_cases q : i < 16
    · have hcnt := hx.2.2 (16 * c + i) (by omega)
      have p3 := cnt_le (pr t K) (16 * c + i) (np n K)
      rw [i_16, if_neg (fun z => nI_ge q (by decide) z), pk_mul, nI_add, gd_nI (show 16 * c + i < 6400 by omega) (by decide), nI_clamp (by omega), hcnt, i_0, nI_1]
      by_cases p1 : 0 < cnt (pr t K) (16 * c + i) (np n K)
      · have p2 := part_le (K := K) (j := 16 * c + i) ht
        have p4 := cnt_le (ix (cv t K)) ((16 * c + i) / 16) (np n K)
        have hdv : (16 * c + i) / 16 = c := by omega
        rw [if_neg (fun z => nI_ge p1 (by omega) z), gd_nI (show c < 400 by omega) (by decide), nI_clamp (by omega), hall]
        rw [hdv] at p2 p4
        rw [costOf_m (u := u) (d := d) p1 p2 (by omega) hd hu, bd_s, nI_l (by omega), lN_mul, lN_add]
        refine ih (k - 1) _ _ _ _ _ _ (by omega) ⟨i + 1, by omega, rfl, rfl, ?_, rfl, rfl, rfl⟩
        congr 1
        show _ = wsum _ (16 * c + i) + (if 0 < cnt (pr t K) (16 * c + i) (np n K) then GC t n K u d (16 * c + i) else 0)
        rw [if_pos p1]
        unfold GC
        rw [hdv]
      · rw [if_pos (nI_le (by omega) (by decide))]
        refine ih (k - 1) _ _ _ _ _ _ (by omega) ⟨i + 1, by omega, rfl, rfl, ?_, rfl, rfl, rfl⟩
        congr 1
        show _ = wsum _ (16 * c + i) + (if 0 < cnt (pr t K) (16 * c + i) (np n K) then GC t n K u d (16 * c + i) else 0)
        rw [if_neg p1, Nat.add_zero]
    · have : i = 16 := by omega
      subst this
      rw [i_16, if_pos (nI_le (Nat.le_refl _) (by decide)), nI_1]
      rfl
  refine L4_rule (I := fun k τ2 x1 x2 x3 x4 => ∃ c, c + k = (fo (cv t K) (np n K)).length ∧ x1 = nI d ∧ x2 = nI u ∧ x3 = lN (wsum (fun j => if 0 < cnt (pr t K) j (np n K) then GC t n K u d j else 0) (16 * c)) ∧ x4 = nI c ∧ τ2 = τ1) (O := fun o => ∃ τ', o = some (lN (SC t n K u d), τ') ∧ fr [3] [2, 3, 4] τ τ') ?_ FUEL (fo (cv t K) (np n K)).length τ1 _ _ _ _ (by unfold FUEL; omega) ⟨0, by omega, rfl, rfl, j_0, i_0, rfl⟩
  rintro g k τ2 x1 x2 x3 x4 ⟨c, hc, rfl, rfl, rfl, rfl, rfl⟩ ih
  unfold f_m_X12_content_9
  rw [hx.1]
  by_cases q : c < (fo (cv t K) (np n K)).length
  · rw [if_neg (fun z => nI_ge q (by omega) z), inner g c _ q rfl]
    exact ih (k - 1) _ _ _ _ _ (by omega) ⟨c + 1, by omega, rfl, rfl, rfl, rfl, rfl⟩
  · have : c = (fo (cv t K) (np n K)).length := by omega
    rw [if_pos (nI_le (by omega) (by omega)), this, ← hsum]
    exact ⟨τ2, rfl, f1⟩
/-- CROSS -/
def GX (t w : Nat → Nat) (n u d s : Nat) : Nat := if 0 < cnt t s n then cnt t s n * CO u (w s) (wsum w 16) d else 0
def SX (t w : Nat → Nat) (n u d : Nat) : Nat := wsum (GX t w n u d) 16
def cov (t w : Nat → Nat) (n : Nat) : Prop := ∀ s, s < 16 → 0 < cnt t s n → 0 < w s
def Wc (σ : SS) (w : Nat → Nat) : Prop := (∀ s, s < 16 → w s ≤ 1000 ∧ σ.2 2 s = nI (w s)) ∧ σ.1 2 = nI (wsum w 16)
def Wm (τ : SS) (w : Nat → Nat) : Prop := ∀ s, s < 16 → w s ≤ 1000 ∧ τ.2 1 s = nI (w s)
theorem Wc.bd {σ : SS} {w : Nat → Nat} (h : Wc σ w) : wsum w 16 ≤ 16000 := wsum_le (fun i hi => (h.1 i hi).1)
theorem Wm.bd {σ : SS} {w : Nat → Nat} (h : Wm σ w) : wsum w 16 ≤ 16000 := wsum_le (fun i hi => (h i hi).1)
theorem Wc.fr {I A : List Nat} {σ σ' : SS} {w : Nat → Nat} (h : Wc σ w) (f : fr I A σ σ') (h0 : 2 ∉ I) (h1 : 2 ∉ A) : Wc σ' w := ⟨fun s hs => by rw [f.2 2 h1]; exact h.1 s hs, (f.1 2 h0).trans h.2⟩
theorem Wm.fr {I A : List Nat} {σ σ' : SS} {w : Nat → Nat} (h : Wm σ w) (f : fr I A σ σ') (h1 : 1 ∉ A) : Wm σ' w := fun s hs => by rw [f.2 1 h1]; exact h s hs
theorem cover_c {σ : SS} {t w : Nat → Nat} {n : Nat} (h : Tc σ t n) (hw : Wc σ w) : ∃ r : Int32, f_c_X9_cover σ = some (r, σ) ∧ ((cov t w n ∧ r = 1) ∨ (¬ cov t w n ∧ r = 0)) := by
  have hn := h.2.1
  unfold f_c_X9_cover
  refine L1_rule (I := fun k σ1 x => ∃ i, i + k = 16 ∧ x = nI i ∧ σ1 = σ ∧ ∀ s, s < i → 0 < cnt t s n → 0 < w s) (O := fun o => ∃ r : Int32, o = some (r, σ) ∧ ((cov t w n ∧ r = 1) ∨ (¬ cov t w n ∧ r = 0))) ?_ FUEL 16 σ _ (by decide) ⟨0, rfl, i_0, rfl, fun s hs => absurd hs (Nat.not_lt_zero s)⟩
  rintro g k σ1 x ⟨i, hi, rfl, rfl, hv⟩ ih
  unfold f_c_X9_cover_2
  by_cases q : i < 16
  · have hc := cnt_le t i n
    have hwi := hw.1 i q
    rw [i_16, if_neg (fun z => nI_ge q (by decide) z), gd_nI q (by decide), nI_clamp (by omega), h.2.2.2 i q, i_0, nI_1]
    by_cases p : 0 < cnt t i n
    · rw [if_neg (fun z => nI_ge p (by omega) z), gd_nI q (by decide), hwi.2]
      by_cases e : w i = 0
      · rw [if_pos (by rw [e])]
        exact ⟨_, by rw [← i_0], Or.inr ⟨fun z => by have := z i q p; omega, rfl⟩⟩
      · rw [if_neg (fun z => e ((nI_eq (by omega) (by decide)).mp z))]
        refine ih (k - 1) _ _ (by omega) ⟨i + 1, by omega, rfl, rfl, fun s hs hp => ?_⟩
        by_cases z : s = i
        · rw [z]; omega
        · exact hv s (by omega) hp
    · rw [if_pos (nI_le (by omega) (by decide))]
      refine ih (k - 1) _ _ (by omega) ⟨i + 1, by omega, rfl, rfl, fun s hs hp => ?_⟩
      by_cases z : s = i
      · rw [z] at hp; omega
      · exact hv s (by omega) hp
  · have : i = 16 := by omega
    subst this
    rw [i_16, if_pos (nI_le (Nat.le_refl _) (by decide))]
    exact ⟨1, rfl, Or.inl ⟨hv, rfl⟩⟩
theorem cross_c {σ : SS} {t w : Nat → Nat} {n u d : Nat} (h : Tc σ t n) (hw : Wc σ w) (hcov : cov t w n) (hd : d ≤ 24) (hu : u ≤ 1) (hL : Lg σ) : ∃ σ', f_c_X1_cross σ (nI d) (nI u) = some (lN (SX t w n u d), σ') ∧ fr [] [8] σ σ' ∧ Lg σ' := by
  have hn := h.2.1
  have hb := hw.bd
  unfold f_c_X1_cross
  refine L4_rule (I := fun k σ1 x1 x2 x3 x4 => ∃ i, i + k = 16 ∧ x1 = nI d ∧ x2 = nI u ∧ x3 = lN (wsum (GX t w n u d) i) ∧ x4 = nI i ∧ fr [] [8] σ σ1 ∧ Lg σ1) (O := fun o => ∃ σ', o = some (lN (SX t w n u d), σ') ∧ fr [] [8] σ σ' ∧ Lg σ') ?_ FUEL 16 σ _ _ _ _ (by decide) ⟨0, rfl, rfl, rfl, j_0, i_0, fr.rf σ, hL⟩
  rintro g k σ1 x1 x2 x3 x4 ⟨i, hi, rfl, rfl, rfl, rfl, hf, hL1⟩ ih
  have h1 := h.fr hf (by decide) (by decide) (by decide)
  have hw1 := hw.fr hf (by decide) (by decide)
  unfold f_c_X1_cross_6
  by_cases q : i < 16
  · have hc := cnt_le t i n
    have hwi := hw1.1 i q
    have hws := wsum_ge (w := w) q
    rw [i_16, if_neg (fun z => nI_ge q (by decide) z), gd_nI q (by decide), nI_clamp (by omega), h1.2.2.2 i q, i_0, nI_1]
    by_cases p : 0 < cnt t i n
    · have hwp := hcov i q p
      rw [if_neg (fun z => nI_ge p (by omega) z), gd_nI q (by decide), gd_nI q (by decide), hwi.2, hw1.2]
      obtain ⟨σ2, e2, f2, L2⟩ := partIn_c (σ := σ1) (u := u) (a := w i) (b := wsum w 16) (d := d) hwp hws (by omega) hd hu hL1
      rw [e2, bd_s, nI_l (by omega), lN_mul, lN_add]
      refine ih (k - 1) _ _ _ _ _ (by omega) ⟨i + 1, by omega, rfl, rfl, ?_, rfl, hf.tr f2, L2⟩
      congr 1
      show _ = wsum _ i + GX t w n u d i
      unfold GX; rw [if_pos p]
    · rw [if_pos (nI_le (by omega) (by decide))]
      refine ih (k - 1) _ _ _ _ _ (by omega) ⟨i + 1, by omega, rfl, rfl, ?_, rfl, hf, hL1⟩
      congr 1
      show _ = wsum _ i + GX t w n u d i
      unfold GX; rw [if_neg p, Nat.add_zero]
  · have : i = 16 := by omega
    subst this
    rw [i_16, if_pos (nI_le (Nat.le_refl _) (by decide))]
    exact ⟨σ1, rfl, hf, hL1⟩
theorem cross_m {τ : SS} {t w : Nat → Nat} {n u d : Nat} (h : Tm τ t n) (hw : Wm τ w) (hd : d ≤ 24) (hu : u ≤ 1) : ∃ r : Int64, f_m_X12_cross τ (nI d) (nI u) = some (r, τ) ∧ ((cov t w n ∧ r = lN (SX t w n u d)) ∨ (¬ cov t w n ∧ r = -2)) := by
  have hn := h.2.1
  have hb := hw.bd
  unfold f_m_X12_cross
  rw [sum_m (fun s hs => (hw s hs).2), bd_s]
  refine L5_rule (I := fun k τ1 x1 x2 x3 x4 x5 => ∃ i, i + k = 16 ∧ x1 = nI d ∧ x2 = nI u ∧ x3 = nI (wsum w 16) ∧ x4 = lN (wsum (GX t w n u d) i) ∧ x5 = nI i ∧ τ1 = τ ∧ ∀ s, s < i → 0 < cnt t s n → 0 < w s) (O := fun o => ∃ r : Int64, o = some (r, τ) ∧ ((cov t w n ∧ r = lN (SX t w n u d)) ∨ (¬ cov t w n ∧ r = -2))) ?_ FUEL 16 τ _ _ _ _ _ (by decide) ⟨0, rfl, rfl, rfl, rfl, j_0, i_0, rfl, fun s hs => absurd hs (Nat.not_lt_zero s)⟩
  rintro g k τ1 x1 x2 x3 x4 x5 ⟨i, hi, rfl, rfl, rfl, rfl, rfl, rfl, hv⟩ ih
  unfold f_m_X12_cross_11
  by_cases q : i < 16
  · have hc := cnt_le t i n
    have hwi := hw i q
    have hws := wsum_ge (w := w) q
    rw [i_16, if_neg (fun z => nI_ge q (by decide) z), h.1, often_m h q (Nat.le_refl n), bd_s, i_0]
    unfold f_m_X12_cross_49
    by_cases p : 0 < cnt t i n
    · rw [if_neg (fun z => nI_ge p (by omega) z), gd_nI q (by decide), nI_clamp (by omega), hwi.2]
      by_cases e : w i = 0
      · rw [if_pos (by rw [e])]
        exact ⟨_, rfl, Or.inr ⟨fun z => by have := z i q p; omega, rfl⟩⟩
      · rw [if_neg (fun z => e ((nI_eq (by omega) (by decide)).mp z)), i_0, if_neg (fun z => nI_ge p (by omega) z), gd_nI q (by decide), costOf_m (u := u) (d := d) (by omega) hws (by omega) hd hu, bd_s, nI_l (by omega), lN_mul, lN_add, nI_1]
        refine ih (k - 1) _ _ _ _ _ _ (by omega) ⟨i + 1, by omega, rfl, rfl, rfl, ?_, rfl, rfl, fun s hs hp => ?_⟩
        · congr 1
          show _ = wsum _ i + GX t w n u d i
          unfold GX; rw [if_pos p]
        · by_cases z : s = i
          · rw [z]; omega
          · exact hv s (by omega) hp
    · rw [if_pos (nI_le (by omega) (by decide)), i_0, if_pos (nI_le (by omega) (by decide)), nI_1]
      refine ih (k - 1) _ _ _ _ _ _ (by omega) ⟨i + 1, by omega, rfl, rfl, rfl, ?_, rfl, rfl, fun s hs hp => ?_⟩
      · congr 1
        show _ = wsum _ i + GX t w n u d i
        unfold GX; rw [if_neg p, Nat.add_zero]
      · by_cases z : s = i
        · rw [z] at hp; omega
        · exact hv s (by omega) hp
  · have : i = 16 := by omega
    subst this
    rw [i_16, if_pos (nI_le (Nat.le_refl _) (by decide))]
    exact ⟨_, rfl, Or.inl ⟨hv, rfl⟩⟩
/-- GROWING -/
def GG (t : Nat → Nat) (u d p : Nat) : Nat := CO u (cnt t (t p) p + 1) (p + 16) d
theorem growing_c {σ : SS} {t : Nat → Nat} {n u d : Nat} (h : Tc σ t n) (hd : d ≤ 24) (hu : u ≤ 1) (hL : Lg σ) : ∃ σ', f_c_X1_growing σ (nI d) (nI u) = some (lN (wsum (GG t u d) n), σ') ∧ fr [] [8, 9] σ σ' ∧ Lg σ' := by
  have hn := h.2.1
  unfold f_c_X1_growing
  obtain ⟨σ0, e0, f0, v0⟩ := fill_15 σ 0
  rw [e0, bd_s]
  refine L4_rule (I := fun k σ1 x1 x2 x3 x4 => ∃ i, i + k = n ∧ x1 = nI d ∧ x2 = nI u ∧ x3 = lN (wsum (GG t u d) i) ∧ x4 = nI i ∧ fr [] [8, 9] σ σ1 ∧ Lg σ1 ∧ ∀ s, s < 16 → σ1.2 9 s = nI (cnt t s i)) (O := fun o => ∃ σ', o = some (lN (wsum (GG t u d) n), σ') ∧ fr [] [8, 9] σ σ' ∧ Lg σ') ?_ FUEL n σ0 _ _ _ _ (by unfold FUEL; omega) ⟨0, by omega, rfl, rfl, j_0, i_0, f0.up (by decide) (by decide), hL.fr f0 (by decide), fun s hs => by rw [v0 s hs]; exact i_0⟩
  rintro g k σ1 x1 x2 x3 x4 ⟨i, hi, rfl, rfl, rfl, rfl, hf, hL1, hv⟩ ih
  have h1 := h.fr hf (by decide) (by decide) (by decide)
  unfold f_c_X1_growing_14
  rw [h1.1]
  by_cases q : i < n
  · obtain ⟨ht, hs⟩ := h1.2.2.1 i q
    have hc := cnt_le t (t i) i
    rw [if_neg (fun z => nI_ge q (by omega) z), gd_nI (show i < 400 by omega) (by decide), nI_clamp (by omega), hs, gd_nI ht (by decide), gd_nI ht (by decide), gd_nI ht (by decide), nI_clamp (by omega), hv (t i) ht, nI_1]
    rw [show (putA σ1 9 (t i) (nI (cnt t (t i) i + 1))).2 9 (t i) = nI (cnt t (t i) i + 1) from by
      show upd (σ1.2 9) _ _ _ = _
      rw [upd_at, if_pos rfl], i_16, nI_add]
    have hLp : Lg (putA σ1 9 (t i) (nI (cnt t (t i) i + 1))) := hL1.fr (fr.pA (I := []) (A := [9]) (fr.rf σ1) (by decide)) (by decide)
    obtain ⟨σ2, e2, f2, L2⟩ := partIn_c (u := u) (a := cnt t (t i) i + 1) (b := i + 16) (d := d) (by omega) (by omega) (by omega) hd hu hLp
    rw [e2, bd_s, lN_add, nI_1]
    refine ih (k - 1) _ _ _ _ _ (by omega) ⟨i + 1, by omega, rfl, rfl, rfl, rfl, (hf.pA (by decide)).tr (f2.up (by decide) (by decide)), L2, fun s hs => ?_⟩
    rw [f2.2 9 (by decide)]
    show upd (σ1.2 9) _ _ s = _
    rw [upd_at, cnt_s]
    by_cases z : s = t i
    · rw [if_pos z, if_pos z.symm, z]
    · rw [if_neg z, if_neg (fun y => z y.symm)]; exact hv s hs
  · have : i = n := by omega
    subst this
    rw [if_pos (nI_le (Nat.le_refl _) (by omega))]
    exact ⟨σ1, rfl, hf, hL1⟩
theorem growing_m {τ : SS} {t : Nat → Nat} {n u d : Nat} (h : Tm τ t n) (hd : d ≤ 24) (hu : u ≤ 1) : f_m_X12_growing τ (nI d) (nI u) = some (lN (wsum (GG t u d) n), τ) := by
  have hn := h.2.1
  unfold f_m_X12_growing
  refine L4_rule (I := fun k τ1 x1 x2 x3 x4 => ∃ i, i + k = n ∧ x1 = nI d ∧ x2 = nI u ∧ x3 = lN (wsum (GG t u d) i) ∧ x4 = nI i ∧ τ1 = τ) (O := fun o => o = some (lN (wsum (GG t u d) n), τ)) ?_ FUEL n τ _ _ _ _ (by unfold FUEL; omega) ⟨0, by omega, rfl, rfl, j_0, i_0, rfl⟩
  rintro g k τ1 x1 x2 x3 x4 ⟨i, hi, rfl, rfl, rfl, rfl, rfl⟩ ih
  unfold f_m_X12_growing_5
  rw [h.1]
  by_cases q : i < n
  · obtain ⟨ht, hs⟩ := h.2.2 i q
    have hc := cnt_le t (t i) i
    rw [if_neg (fun z => nI_ge q (by omega) z), gd_nI (show i < 400 by omega) (by decide), nI_clamp (by omega), hs, often_m h ht (by omega), bd_s, nI_1, i_16, nI_add, costOf_m (u := u) (d := d) (by omega) (by omega) (by omega) hd hu, bd_s, lN_add, nI_1]
    exact ih (k - 1) _ _ _ _ _ (by omega) ⟨i + 1, by omega, rfl, rfl, rfl, rfl, rfl⟩
  · have : i = n := by omega
    subst this
    rw [if_pos (nI_le (Nat.le_refl _) (by omega))]
