/-! the grammar: what it is -/
def mt (r : Nat → Nat) (f s p : Nat) : Prop := r p = f ∧ r (p + 1) = s
/-- how often a pair stands from place p on, counted from the left -/
def cjk (r : Nat → Nat) (R f s : Nat) : Nat → Nat → Nat
  | 0, _ => 0
  | k + 1, p => if p + 1 < R then (if r p = f ∧ r (p + 1) = s then cjk r R f s k (p + 2) + 1 else cjk r R f s k (p + 1)) else 0
theorem cjk_any (r : Nat → Nat) (R f s : Nat) : ∀ k p, R - p ≤ k → cjk r R f s k p = cjk r R f s (R - p) p := by
  intro k
  induction k using Nat.strongRecOn with
  | _ k ih =>
    intro p h
    by_cases z : p + 1 < R
    · obtain ⟨k', rfl⟩ : ∃ k', k = k' + 1 := ⟨k - 1, by omega⟩
      obtain ⟨d, hd⟩ : ∃ d, R - p = d + 1 := ⟨R - p - 1, by omega⟩
      rw [hd]
      show (if p + 1 < R then (if r p = f ∧ r (p + 1) = s then cjk r R f s k' (p + 2) + 1 else cjk r R f s k' (p + 1)) else 0) = (if p + 1 < R then (if r p = f ∧ r (p + 1) = s then cjk r R f s d (p + 2) + 1 else cjk r R f s d (p + 1)) else 0)
      rw [if_pos z, if_pos z]
      rw [ih k' (by omega) (p + 2) (by omega), ih k' (by omega) (p + 1) (by omega)]
      by_cases e : d < k' + 1
      · rw [ih d e (p + 2) (by omega), ih d e (p + 1) (by omega)]
      · have : d = k' := by omega
        rw [this, ih k' (by omega) (p + 2) (by omega), ih k' (by omega) (p + 1) (by omega)]
    · have h0 : ∀ k, cjk r R f s k p = 0 := by
        intro k
        cases k with
        | zero => rfl
        | succ k =>
          show (if p + 1 < R then (if r p = f ∧ r (p + 1) = s then cjk r R f s k (p + 2) + 1 else cjk r R f s k (p + 1)) else 0) = 0
          rw [if_neg z]
      rw [h0, h0]
def cj (r : Nat → Nat) (R f s p : Nat) : Nat := cjk r R f s (R - p) p
theorem cj_s (r : Nat → Nat) (R f s p : Nat) : cj r R f s p = if p + 1 < R then (if r p = f ∧ r (p + 1) = s then cj r R f s (p + 2) + 1 else cj r R f s (p + 1)) else 0 := by
  unfold cj
  by_cases z : p < R
  · obtain ⟨d, hd⟩ : ∃ d, R - p = d + 1 := ⟨R - p - 1, by omega⟩
    rw [hd]
    show (if p + 1 < R then (if r p = f ∧ r (p + 1) = s then cjk r R f s d (p + 2) + 1 else cjk r R f s d (p + 1)) else 0) = _
    rw [cjk_any r R f s d (p + 2) (by omega), cjk_any r R f s d (p + 1) (by omega)]
  · rw [show R - p = 0 by omega, if_neg (by omega)]
    rfl
theorem cj_le (r : Nat → Nat) (R f s : Nat) : ∀ k p, R - p = k → cj r R f s p ≤ k := by
  intro k
  induction k using Nat.strongRecOn with
  | _ k ih =>
    intro p h
    rw [cj_s]
    by_cases z : p + 1 < R
    · rw [if_pos z]
      split
      · have := ih (R - (p + 2)) (by omega) (p + 2) rfl
        omega
      · have := ih (R - (p + 1)) (by omega) (p + 1) rfl
        omega
    · rw [if_neg z]; exact Nat.zero_le _
/-- counted place by place: how often, and where last -/
def gw (r : Nat → Nat) (f s : Nat) : Nat → Nat × Nat
  | 0 => (0, 0)
  | m + 1 => if r m = f ∧ r (m + 1) = s ∧ ((gw r f s m).1 = 0 ∨ (gw r f s m).2 + 1 < m) then ((gw r f s m).1 + 1, m) else gw r f s m
theorem gw_s (r : Nat → Nat) (f s m : Nat) : gw r f s (m + 1) = if r m = f ∧ r (m + 1) = s ∧ ((gw r f s m).1 = 0 ∨ (gw r f s m).2 + 1 < m) then ((gw r f s m).1 + 1, m) else gw r f s m := rfl
theorem gw_le (r : Nat → Nat) (f s m : Nat) : (gw r f s m).1 ≤ m := by
  induction m with
  | zero => exact Nat.le_refl 0
  | succ m ih =>
    rw [gw_s]
    split
    · show (gw r f s m).1 + 1 ≤ m + 1
      omega
    · omega
theorem gw_last (r : Nat → Nat) (f s m : Nat) : (gw r f s m).2 ≤ m := by
  induction m with
  | zero => exact Nat.le_refl 0
  | succ m ih =>
    rw [gw_s]
    split
    · show m ≤ m + 1
      omega
    · omega
theorem gw_pos {r : Nat → Nat} {f s m : Nat} : 0 < (gw r f s m).1 ↔ ∃ q, q < m ∧ r q = f ∧ r (q + 1) = s := by
  induction m with
  | zero => constructor
            · intro h; exact absurd h (Nat.lt_irrefl 0)
            · rintro ⟨q, h, -⟩; exact absurd h (Nat.not_lt_zero q)
  | succ m ih =>
    rw [gw_s]
    by_cases e : r m = f ∧ r (m + 1) = s ∧ ((gw r f s m).1 = 0 ∨ (gw r f s m).2 + 1 < m)
    · rw [if_pos e]
      exact ⟨fun _ => ⟨m, by omega, e.1, e.2.1⟩, fun _ => Nat.succ_pos _⟩
    · rw [if_neg e, ih]
      constructor
      · rintro ⟨q, h1, h2⟩; exact ⟨q, by omega, h2⟩
      · rintro ⟨q, h1, h2, h3⟩
        by_cases z : q = m
        · subst z
          rcases Nat.eq_zero_or_pos (gw r f s q).1 with w | w
          · exact absurd ⟨h2, h3, Or.inl w⟩ e
          · exact ih.mp w
        · exact ⟨q, by omega, h2, h3⟩
theorem gw_cj (r : Nat → Nat) (R f s : Nat) : ∀ k p, R - p = k → p + 1 ≤ R → ((gw r f s p).1 = 0 ∨ (gw r f s p).2 + 1 < p) → (gw r f s (R - 1)).1 = (gw r f s p).1 + cj r R f s p := by
  intro k
  induction k using Nat.strongRecOn with
  | _ k ih =>
    intro p h hp hg
    rw [cj_s]
    by_cases z : p + 1 < R
    · rw [if_pos z]
      by_cases e : r p = f ∧ r (p + 1) = s
      · rw [if_pos e]
        have g1 : gw r f s (p + 1) = ((gw r f s p).1 + 1, p) := by rw [gw_s, if_pos ⟨e.1, e.2, hg⟩]
        have g2 : gw r f s (p + 2) = ((gw r f s p).1 + 1, p) := by
          rw [show p + 2 = p + 1 + 1 by omega, gw_s, g1, if_neg]
          rintro ⟨-, -, w | w⟩
          · exact absurd w (Nat.succ_ne_zero _)
          · exact absurd w (Nat.lt_irrefl _)
        by_cases w : p + 2 < R
        · have := ih (R - (p + 2)) (by omega) (p + 2) rfl (by omega) (by rw [g2]; exact Or.inr (by show p + 1 < p + 2; omega))
          rw [this, g2]
          show (gw r f s p).1 + 1 + _ = _
          omega
        · have e1 : R - 1 = p + 1 := by omega
          rw [e1, g1, cj_s, if_neg (by omega)]
      · rw [if_neg e]
        have g1 : gw r f s (p + 1) = gw r f s p := by rw [gw_s, if_neg (fun w => e ⟨w.1, w.2.1⟩)]
        have := ih (R - (p + 1)) (by omega) (p + 1) rfl (by omega) (by
          rw [g1]
          rcases hg with w | w
          · exact Or.inl w
          · exact Or.inr (by omega))
        rw [this, g1]
    · rw [if_neg z, show R - 1 = p by omega, Nat.add_zero]
theorem gw_all (r : Nat → Nat) (R f s : Nat) (h : 1 ≤ R) : (gw r f s (R - 1)).1 = cj r R f s 0 := by
  have := gw_cj r R f s (R - 0) 0 rfl h (Or.inl rfl)
  rw [this]
  show 0 + _ = _
  omega
/-- the pair that becomes a rule -/
def IsBP (r : Nat → Nat) (R f s : Nat) : Prop := 2 ≤ cj r R f s 0 ∧ ∀ q, q + 1 < R → cj r R (r q) (r (q + 1)) 0 < cj r R f s 0 ∨ (cj r R (r q) (r (q + 1)) 0 = cj r R f s 0 ∧ (f < r q ∨ (f = r q ∧ s ≤ r (q + 1))))
theorem cj_pos {r : Nat → Nat} {R f s : Nat} : ∀ k p, R - p = k → 0 < cj r R f s p → ∃ q, p ≤ q ∧ q + 1 < R ∧ r q = f ∧ r (q + 1) = s := by
  intro k
  induction k using Nat.strongRecOn with
  | _ k ih =>
    intro p h hp
    rw [cj_s] at hp
    by_cases z : p + 1 < R
    · rw [if_pos z] at hp
      by_cases e : r p = f ∧ r (p + 1) = s
      · exact ⟨p, Nat.le_refl p, z, e.1, e.2⟩
      · rw [if_neg e] at hp
        obtain ⟨q, a, b, c, d⟩ := ih (R - (p + 1)) (by omega) (p + 1) rfl hp
        exact ⟨q, by omega, b, c, d⟩
    · rw [if_neg z] at hp
      exact absurd hp (Nat.lt_irrefl 0)
theorem IsBP_eq {r : Nat → Nat} {R f s f' s' : Nat} (h : IsBP r R f s) (h' : IsBP r R f' s') : f = f' ∧ s = s' := by
  obtain ⟨q, -, q1, q2, q3⟩ := cj_pos (R - 0) 0 rfl (show 0 < cj r R f s 0 by have := h.1; omega)
  obtain ⟨p, -, p1, p2, p3⟩ := cj_pos (R - 0) 0 rfl (show 0 < cj r R f' s' 0 by have := h'.1; omega)
  have a := h.2 p p1
  have b := h'.2 q q1
  rw [p2, p3] at a
  rw [q2, q3] at b
  omega
/-- each of its places becomes x -/
def rpk (r : Nat → Nat) (R f s x : Nat) : Nat → Nat → List Nat
  | 0, _ => []
  | k + 1, p => if p < R then (if p + 1 < R ∧ r p = f ∧ r (p + 1) = s then x :: rpk r R f s x k (p + 2) else r p :: rpk r R f s x k (p + 1)) else []
theorem rpk_any (r : Nat → Nat) (R f s x : Nat) : ∀ k p, R - p ≤ k → rpk r R f s x k p = rpk r R f s x (R - p) p := by
  intro k
  induction k using Nat.strongRecOn with
  | _ k ih =>
    intro p h
    by_cases z : p < R
    · obtain ⟨k', rfl⟩ : ∃ k', k = k' + 1 := ⟨k - 1, by omega⟩
      obtain ⟨d, hd⟩ : ∃ d, R - p = d + 1 := ⟨R - p - 1, by omega⟩
      rw [hd]
      show (if p < R then (if p + 1 < R ∧ r p = f ∧ r (p + 1) = s then x :: rpk r R f s x k' (p + 2) else r p :: rpk r R f s x k' (p + 1)) else []) = (if p < R then (if p + 1 < R ∧ r p = f ∧ r (p + 1) = s then x :: rpk r R f s x d (p + 2) else r p :: rpk r R f s x d (p + 1)) else [])
      rw [if_pos z, if_pos z]
      rw [ih k' (by omega) (p + 2) (by omega), ih k' (by omega) (p + 1) (by omega)]
      by_cases e : d < k' + 1
      · rw [ih d e (p + 2) (by omega), ih d e (p + 1) (by omega)]
      · have : d = k' := by omega
        rw [this, ih k' (by omega) (p + 2) (by omega), ih k' (by omega) (p + 1) (by omega)]
    · have h0 : ∀ k, rpk r R f s x k p = [] := by
        intro k
        cases k with
        | zero => rfl
        | succ k =>
          show (if p < R then (if p + 1 < R ∧ r p = f ∧ r (p + 1) = s then x :: rpk r R f s x k (p + 2) else r p :: rpk r R f s x k (p + 1)) else []) = []
          rw [if_neg z]
      rw [h0, h0]
def rpl (r : Nat → Nat) (R f s x p : Nat) : List Nat := rpk r R f s x (R - p) p
theorem rpl_s (r : Nat → Nat) (R f s x p : Nat) : rpl r R f s x p = if p < R then (if p + 1 < R ∧ r p = f ∧ r (p + 1) = s then x :: rpl r R f s x (p + 2) else r p :: rpl r R f s x (p + 1)) else [] := by
  unfold rpl
  by_cases z : p < R
  · obtain ⟨d, hd⟩ : ∃ d, R - p = d + 1 := ⟨R - p - 1, by omega⟩
    rw [hd]
    show (if p < R then (if p + 1 < R ∧ r p = f ∧ r (p + 1) = s then x :: rpk r R f s x d (p + 2) else r p :: rpk r R f s x d (p + 1)) else []) = _
    rw [rpk_any r R f s x d (p + 2) (by omega), rpk_any r R f s x d (p + 1) (by omega)]
  · rw [show R - p = 0 by omega, if_neg z]
    rfl
theorem rpl_len (r : Nat → Nat) (R f s x : Nat) : ∀ k p, R - p = k → p ≤ R → (rpl r R f s x p).length + cj r R f s p = R - p := by
  intro k
  induction k using Nat.strongRecOn with
  | _ k ih =>
    intro p h hp
    rw [rpl_s, cj_s]
    by_cases z : p < R
    · rw [if_pos z]
      by_cases y : p + 1 < R
      · rw [if_pos y]
        by_cases e : r p = f ∧ r (p + 1) = s
        · rw [if_pos ⟨y, e⟩, if_pos e]
          have := ih (R - (p + 2)) (by omega) (p + 2) rfl (by omega)
          rw [List.length_cons]; omega
        · rw [if_neg (fun w => e w.2), if_neg e]
          have := ih (R - (p + 1)) (by omega) (p + 1) rfl (by omega)
          rw [List.length_cons]; omega
      · rw [if_neg y, if_neg (fun w => y w.1)]
        have := ih (R - (p + 1)) (by omega) (p + 1) rfl (by omega)
        rw [cj_s, if_neg (by omega)] at this
        rw [List.length_cons]; omega
    · rw [if_neg z, if_neg (by omega)]
      show 0 + 0 = _
      omega
theorem rpl_mem {r : Nat → Nat} {R f s x B : Nat} (hr : ∀ i, i < R → r i < B) (hx : x < B) : ∀ k p, R - p = k → ∀ y, y ∈ rpl r R f s x p → y < B := by
  intro k
  induction k using Nat.strongRecOn with
  | _ k ih =>
    intro p h y hy
    rw [rpl_s] at hy
    by_cases z : p < R
    · rw [if_pos z] at hy
      by_cases e : p + 1 < R ∧ r p = f ∧ r (p + 1) = s
      · rw [if_pos e] at hy
        rcases List.mem_cons.mp hy with w | w
        · rw [w]; exact hx
        · exact ih (R - (p + 2)) (by omega) (p + 2) rfl y w
      · rw [if_neg e] at hy
        rcases List.mem_cons.mp hy with w | w
        · rw [w]; exact hr p z
        · exact ih (R - (p + 1)) (by omega) (p + 1) rfl y w
    · rw [if_neg z] at hy
      exact absurd hy List.not_mem_nil
/-- the text, 0 behind its end -/
def nm (t : Nat → Nat) (n : Nat) : Nat → Nat := fun i => if i < n then t i else 0
/-- THE ROW's length, THE ROW, the RULES, after k steps -/
noncomputable def gs (t : Nat → Nat) (n : Nat) : Nat → Nat × (Nat → Nat) × (Nat → Nat) × (Nat → Nat)
  | 0 => (n, nm t n, fun _ => 0, fun _ => 0)
  | k + 1 => @dite _ (∃ q : Nat × Nat, IsBP (gs t n k).2.1 (gs t n k).1 q.1 q.2) (Classical.propDecidable _)
      (fun h => ((rpl (gs t n k).2.1 (gs t n k).1 (Classical.choose h).1 (Classical.choose h).2 (16 + k) 0).length, fun j => (rpl (gs t n k).2.1 (gs t n k).1 (Classical.choose h).1 (Classical.choose h).2 (16 + k) 0).getD j 0, tset (gs t n k).2.2.1 k (Classical.choose h).1, tset (gs t n k).2.2.2 k (Classical.choose h).2))
      (fun _ => gs t n k)
noncomputable def gR (t : Nat → Nat) (n k : Nat) : Nat := (gs t n k).1
noncomputable def gr (t : Nat → Nat) (n k : Nat) : Nat → Nat := (gs t n k).2.1
noncomputable def gF (t : Nat → Nat) (n k : Nat) : Nat → Nat := (gs t n k).2.2.1
noncomputable def gS (t : Nat → Nat) (n k : Nat) : Nat → Nat := (gs t n k).2.2.2
theorem gs_s {t : Nat → Nat} {n k f s : Nat} (h : IsBP (gr t n k) (gR t n k) f s) : gR t n (k + 1) = (rpl (gr t n k) (gR t n k) f s (16 + k) 0).length ∧ gr t n (k + 1) = (fun j => (rpl (gr t n k) (gR t n k) f s (16 + k) 0).getD j 0) ∧ gF t n (k + 1) = tset (gF t n k) k f ∧ gS t n (k + 1) = tset (gS t n k) k s := by
  have hex : ∃ q : Nat × Nat, IsBP (gs t n k).2.1 (gs t n k).1 q.1 q.2 := ⟨(f, s), h⟩
  have hch := Classical.choose_spec hex
  obtain ⟨e1, e2⟩ := IsBP_eq hch h
  have hg : gs t n (k + 1) = ((rpl (gs t n k).2.1 (gs t n k).1 f s (16 + k) 0).length, fun j => (rpl (gs t n k).2.1 (gs t n k).1 f s (16 + k) 0).getD j 0, tset (gs t n k).2.2.1 k f, tset (gs t n k).2.2.2 k s) := by
    rw [gs, dif_pos hex, e1, e2]
  unfold gR gr gF gS
  rw [hg]
  exact ⟨rfl, rfl, rfl, rfl⟩
theorem gs_nm {t t' : Nat → Nat} {n : Nat} (h : ∀ i, i < n → t i = t' i) (k : Nat) : gs t n k = gs t' n k := by
  have e : nm t n = nm t' n := by
    funext i
    unfold nm
    by_cases z : i < n
    · rw [if_pos z, if_pos z, h i z]
    · rw [if_neg z, if_neg z]
  induction k with
  | zero => show (n, nm t n, _, _) = (n, nm t' n, _, _); rw [e]
  | succ k ih => rw [gs, gs, ih]
/-- how many rules there are at last -/
def GN (t : Nat → Nat) (n K : Nat) : Prop := (∀ k, k < K → ∃ f s, IsBP (gr t n k) (gR t n k) f s) ∧ ¬ ∃ f s, IsBP (gr t n K) (gR t n K) f s
theorem GN_eq {t : Nat → Nat} {n K K' : Nat} (h : GN t n K) (h' : GN t n K') : K = K' := by
  rcases Nat.lt_trichotomy K K' with q | q | q
  · exact absurd (h'.1 K q) h.2
  · exact q
  · exact absurd (h.1 K' q) h'.2
/-- lengths and symbols stay in bounds -/
theorem gs_bd {t : Nat → Nat} {n : Nat} (ht : ∀ i, i < n → t i < 16) : ∀ K, (∀ k, k < K → ∃ f s, IsBP (gr t n k) (gR t n k) f s) → gR t n K + 2 * K ≤ n ∧ (∀ i, i < gR t n K → gr t n K i < 16 + K) ∧ ∀ k, k < K → gF t n K k < 16 + K ∧ gS t n K k < 16 + K := by
  intro K
  induction K with
  | zero =>
    intro _
    refine ⟨Nat.le_refl _, fun i hi => ?_, fun k hk => absurd hk (Nat.not_lt_zero k)⟩
    show nm t n i < 16
    unfold nm
    have hi' : i < n := hi
    rw [if_pos hi']
    exact ht i hi'
  | succ K ih =>
    intro h
    obtain ⟨a, b, c⟩ := ih (fun k hk => h k (by omega))
    obtain ⟨f, s, hb⟩ := h K (by omega)
    obtain ⟨e1, e2, e3, e4⟩ := gs_s hb
    have hl := rpl_len (gr t n K) (gR t n K) f s (16 + K) (gR t n K - 0) 0 rfl (Nat.zero_le _)
    have h2 := hb.1
    refine ⟨by rw [e1]; omega, fun i hi => ?_, fun k hk => ?_⟩
    · rw [e1] at hi
      rw [e2]
      show List.getD _ i 0 < _
      rw [List.getD_eq_getElem?_getD, List.getElem?_eq_getElem hi]
      exact rpl_mem (B := 16 + (K + 1)) (fun j hj => by have := b j hj; omega) (by omega) (gR t n K - 0) 0 rfl _ (List.getElem_mem hi)
    · rw [e3, e4]
      obtain ⟨q, -, q1, q2, q3⟩ := cj_pos (gR t n K - 0) 0 rfl (show 0 < cj (gr t n K) (gR t n K) f s 0 by omega)
      by_cases z : k = K
      · rw [z, tset_at, tset_at]
        have b1 := b q (by omega)
        have b2 := b (q + 1) q1
        omega
      · rw [tset_lt (by omega), tset_lt (by omega)]
        have := c k (by omega)
        omega
