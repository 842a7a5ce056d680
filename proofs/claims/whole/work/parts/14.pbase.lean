/-! pure rows: what the translations' words do at numbers -/
theorem putI_1 (σ : SS) (k : Nat) (x : Int32) (j : Nat) : (putI σ k x).1 j = if j = k then x else σ.1 j := rfl
theorem putI_2 (σ : SS) (k : Nat) (x : Int32) : (putI σ k x).2 = σ.2 := rfl
theorem putA_1 (σ : SS) (k j : Nat) (x : Int32) : (putA σ k j x).1 = σ.1 := rfl
theorem putA_2 (σ : SS) (k j : Nat) (x : Int32) (a : Nat) : (putA σ k j x).2 a = if a = k then upd (σ.2 k) j x else σ.2 a := rfl
theorem putR_1 (σ : SS) (k : Nat) (f : Nat → Int32) : (putR σ k f).1 = σ.1 := rfl
theorem putR_2 (σ : SS) (k : Nat) (f : Nat → Int32) (a : Nat) : (putR σ k f).2 a = if a = k then f else σ.2 a := rfl
theorem upd_at (f : Nat → Int32) (k : Nat) (x : Int32) (j : Nat) : upd f k x j = if j = k then x else f j := by
  by_cases h : j = k
  · subst h; rw [pk_us, if_pos rfl]
  · rw [pk_un h, if_neg h]
theorem bd_s {α β : Type} (r : α) (σ : SS) (k : α → SS → Option β) : bd (some (r, σ)) k = k r σ := rfl
theorem gd_nI {β : Type} {j n : Nat} (h : j < n) (hn : n < 2 ^ 31) (k : Option β) : gd (nI j) n k = k := by
  unfold gd
  rw [if_neg]
  intro hc
  rcases hc with hc | hc
  · exact nI_pos (by omega) hc
  · rw [nI_clamp (by omega)] at hc; omega
theorem gc_nI {β : Type} {j n : Nat} (h : j ≤ n) (hn : n < 2 ^ 31) (k : Option β) : gc (nI j) n k = k := by
  unfold gc
  rw [if_neg]
  intro hc
  rcases hc with hc | hc
  · exact nI_pos (by omega) hc
  · rw [nI_clamp (by omega)] at hc; omega
theorem gb_0 {β : Type} (k : Option β) : gb 0 k = k := rfl
theorem gb_1 {β : Type} (k : Option β) : gb 1 k = k := by unfold gb; rw [if_pos (Or.inr rfl)]
/-- the states agree but for these ints and these arrays -/
def fr (I A : List Nat) (σ σ' : SS) : Prop := (∀ k, k ∉ I → σ'.1 k = σ.1 k) ∧ ∀ k, k ∉ A → σ'.2 k = σ.2 k
theorem fr.rf {I A : List Nat} (σ : SS) : fr I A σ σ := ⟨fun _ _ => rfl, fun _ _ => rfl⟩
theorem fr.tr {I A : List Nat} {σ σ1 σ2 : SS} (h : fr I A σ σ1) (h' : fr I A σ1 σ2) : fr I A σ σ2 := ⟨fun k hk => (h'.1 k hk).trans (h.1 k hk), fun k hk => (h'.2 k hk).trans (h.2 k hk)⟩
theorem fr.up {I A I' A' : List Nat} {σ σ' : SS} (h : fr I A σ σ') (hI : ∀ k ∈ I, k ∈ I') (hA : ∀ k ∈ A, k ∈ A') : fr I' A' σ σ' := ⟨fun k hk => h.1 k (fun q => hk (hI k q)), fun k hk => h.2 k (fun q => hk (hA k q))⟩
theorem fr.pI {I A : List Nat} {σ σ' : SS} {j : Nat} {x : Int32} (h : fr I A σ σ') (hj : j ∈ I) : fr I A σ (putI σ' j x) := ⟨fun k hk => by have hne : k ≠ j := (fun q => hk (by rw [q]; exact hj)); rw [putI_1, if_neg hne]; exact h.1 k hk, h.2⟩
theorem fr.pA {I A : List Nat} {σ σ' : SS} {a j : Nat} {x : Int32} (h : fr I A σ σ') (hj : a ∈ A) : fr I A σ (putA σ' a j x) := ⟨h.1, fun k hk => by have hne : k ≠ a := (fun q => hk (by rw [q]; exact hj)); rw [putA_2, if_neg hne]; exact h.2 k hk⟩
theorem fr.pR {I A : List Nat} {σ σ' : SS} {a : Nat} {f : Nat → Int32} (h : fr I A σ σ') (hj : a ∈ A) : fr I A σ (putR σ' a f) := ⟨h.1, fun k hk => by have hne : k ≠ a := (fun q => hk (by rw [q]; exact hj)); rw [putR_2, if_neg hne]; exact h.2 k hk⟩
/-- numbers that are written out -/
theorem i_0 : (0 : Int32) = nI 0 := by decide
theorem i_1 : (1 : Int32) = nI 1 := by decide
theorem i_2 : (2 : Int32) = nI 2 := by decide
theorem i_3 : (3 : Int32) = nI 3 := by decide
theorem i_4 : (4 : Int32) = nI 4 := by decide
theorem i_15 : (15 : Int32) = nI 15 := by decide
theorem i_16 : (16 : Int32) = nI 16 := by decide
theorem i_24 : (24 : Int32) = nI 24 := by decide
theorem i_30 : (30 : Int32) = nI 30 := by decide
theorem i_200 : (200 : Int32) = nI 200 := by decide
theorem i_216 : (216 : Int32) = nI 216 := by decide
theorem i_400 : (400 : Int32) = nI 400 := by decide
theorem i_416 : (416 : Int32) = nI 416 := by decide
theorem i_1000 : (1000 : Int32) = nI 1000 := by decide
theorem i_1000000 : (1000000 : Int32) = nI 1000000 := by decide
theorem i_1048576 : (1048576 : Int32) = nI 1048576 := by decide
theorem nI_m1 {n : Nat} (h : n < 2 ^ 31) : ¬ nI n = -1 := by
  intro q
  have := congrArg Int32.toInt q
  rw [nI_toInt h] at this
  have e : (-1 : Int32).toInt = -1 := by decide
  rw [e] at this; omega
theorem nI_m2 {n : Nat} (h : n < 2 ^ 31) : ¬ nI n = -2 := by
  intro q
  have := congrArg Int32.toInt q
  rw [nI_toInt h] at this
  have e : (-2 : Int32).toInt = -2 := by decide
  rw [e] at this; omega
theorem nI_m3 {n : Nat} (h : n < 2 ^ 31) : ¬ nI n = -3 := by
  intro q
  have := congrArg Int32.toInt q
  rw [nI_toInt h] at this
  have e : (-3 : Int32).toInt = -3 := by decide
  rw [e] at this; omega
theorem lc_lt (x y : Int64) : (lg_cmp x y < 0) ↔ x < y := by
  unfold lg_cmp
  by_cases h1 : x > y
  · rw [if_pos h1]
    have : ¬ x < y := fun h => by
      rw [gt_iff_lt, Int64.lt_iff_toInt_lt] at h1
      rw [Int64.lt_iff_toInt_lt] at h
      omega
    simp [this]
  · rw [if_neg h1]
    by_cases h2 : x = y
    · subst h2
      rw [if_pos rfl]
      simp [Int64.lt_iff_toInt_lt]
    · rw [if_neg h2]
      have : x < y := by
        rw [gt_iff_lt, Int64.lt_iff_toInt_lt] at h1
        rw [← Int64.toInt_inj] at h2
        rw [Int64.lt_iff_toInt_lt]
        omega
      simp [this]
theorem lc_gt (x y : Int64) : ((0 : Int32) < lg_cmp x y) ↔ y < x := by
  unfold lg_cmp
  by_cases h1 : x > y
  · rw [if_pos h1]; simp; exact h1
  · rw [if_neg h1]
    have h1' : ¬ y < x := h1
    by_cases h2 : x = y
    · rw [if_pos h2]; simp [h1']
    · rw [if_neg h2]; simp [h1']
theorem lc_eq (x y : Int64) : (lg_cmp x y = 0) ↔ x = y := by
  unfold lg_cmp
  by_cases h1 : x > y
  · rw [if_pos h1]
    have : ¬ x = y := fun h => by
      subst h
      rw [gt_iff_lt, Int64.lt_iff_toInt_lt] at h1; omega
    simp [this]
  · rw [if_neg h1]
    by_cases h2 : x = y
    · rw [if_pos h2]; simp [h2]
    · rw [if_neg h2]; simp [h2]
theorem L0_rule {β : Type} {body : (SS → Option β) → SS → Option β} (I : Nat → SS → Prop) (O : Option β → Prop)
    (hs : ∀ (g : (SS → Option β)) (k : Nat) (σ : SS), I k σ → (∀ (k' : Nat) (σ' : SS), k' < k → I k' σ' → O (g σ')) → O (body g σ)) : ∀ (n k : Nat) (σ : SS), k < n → I k σ → O (L0 body n σ) := by
  intro n
  induction n with
  | zero => intro k σ h; exact absurd h (Nat.not_lt_zero k)
  | succ n ih => intro k σ h hI; exact hs (L0 body n) k σ hI (fun k' σ' hk hI' => ih k' σ' (by omega) hI')
theorem L1_rule {β : Type} {A1 : Type} {body : (SS → A1 → Option β) → SS → A1 → Option β} (I : Nat → SS → A1 → Prop) (O : Option β → Prop)
    (hs : ∀ (g : (SS → A1 → Option β)) (k : Nat) (σ : SS) (x1 : A1), I k σ x1 → (∀ (k' : Nat) (σ' : SS) (y1 : A1), k' < k → I k' σ' y1 → O (g σ' y1)) → O (body g σ x1)) : ∀ (n k : Nat) (σ : SS) (x1 : A1), k < n → I k σ x1 → O (L1 body n σ x1) := by
  intro n
  induction n with
  | zero => intro k σ x1 h; exact absurd h (Nat.not_lt_zero k)
  | succ n ih => intro k σ x1 h hI; exact hs (L1 body n) k σ x1 hI (fun k' σ' y1 hk hI' => ih k' σ' y1 (by omega) hI')
theorem L2_rule {β : Type} {A1 A2 : Type} {body : (SS → A1 → A2 → Option β) → SS → A1 → A2 → Option β} (I : Nat → SS → A1 → A2 → Prop) (O : Option β → Prop)
    (hs : ∀ (g : (SS → A1 → A2 → Option β)) (k : Nat) (σ : SS) (x1 : A1) (x2 : A2), I k σ x1 x2 → (∀ (k' : Nat) (σ' : SS) (y1 : A1) (y2 : A2), k' < k → I k' σ' y1 y2 → O (g σ' y1 y2)) → O (body g σ x1 x2)) : ∀ (n k : Nat) (σ : SS) (x1 : A1) (x2 : A2), k < n → I k σ x1 x2 → O (L2 body n σ x1 x2) := by
  intro n
  induction n with
  | zero => intro k σ x1 x2 h; exact absurd h (Nat.not_lt_zero k)
  | succ n ih => intro k σ x1 x2 h hI; exact hs (L2 body n) k σ x1 x2 hI (fun k' σ' y1 y2 hk hI' => ih k' σ' y1 y2 (by omega) hI')
theorem L3_rule {β : Type} {A1 A2 A3 : Type} {body : (SS → A1 → A2 → A3 → Option β) → SS → A1 → A2 → A3 → Option β} (I : Nat → SS → A1 → A2 → A3 → Prop) (O : Option β → Prop)
    (hs : ∀ (g : (SS → A1 → A2 → A3 → Option β)) (k : Nat) (σ : SS) (x1 : A1) (x2 : A2) (x3 : A3), I k σ x1 x2 x3 → (∀ (k' : Nat) (σ' : SS) (y1 : A1) (y2 : A2) (y3 : A3), k' < k → I k' σ' y1 y2 y3 → O (g σ' y1 y2 y3)) → O (body g σ x1 x2 x3)) : ∀ (n k : Nat) (σ : SS) (x1 : A1) (x2 : A2) (x3 : A3), k < n → I k σ x1 x2 x3 → O (L3 body n σ x1 x2 x3) := by
  intro n
  induction n with
  | zero => intro k σ x1 x2 x3 h; exact absurd h (Nat.not_lt_zero k)
  | succ n ih => intro k σ x1 x2 x3 h hI; exact hs (L3 body n) k σ x1 x2 x3 hI (fun k' σ' y1 y2 y3 hk hI' => ih k' σ' y1 y2 y3 (by omega) hI')
theorem L4_rule {β : Type} {A1 A2 A3 A4 : Type} {body : (SS → A1 → A2 → A3 → A4 → Option β) → SS → A1 → A2 → A3 → A4 → Option β} (I : Nat → SS → A1 → A2 → A3 → A4 → Prop) (O : Option β → Prop)
    (hs : ∀ (g : (SS → A1 → A2 → A3 → A4 → Option β)) (k : Nat) (σ : SS) (x1 : A1) (x2 : A2) (x3 : A3) (x4 : A4), I k σ x1 x2 x3 x4 → (∀ (k' : Nat) (σ' : SS) (y1 : A1) (y2 : A2) (y3 : A3) (y4 : A4), k' < k → I k' σ' y1 y2 y3 y4 → O (g σ' y1 y2 y3 y4)) → O (body g σ x1 x2 x3 x4)) : ∀ (n k : Nat) (σ : SS) (x1 : A1) (x2 : A2) (x3 : A3) (x4 : A4), k < n → I k σ x1 x2 x3 x4 → O (L4 body n σ x1 x2 x3 x4) := by
  intro n
  induction n with
  | zero => intro k σ x1 x2 x3 x4 h; exact absurd h (Nat.not_lt_zero k)
  | succ n ih => intro k σ x1 x2 x3 x4 h hI; exact hs (L4 body n) k σ x1 x2 x3 x4 hI (fun k' σ' y1 y2 y3 y4 hk hI' => ih k' σ' y1 y2 y3 y4 (by omega) hI')
theorem L5_rule {β : Type} {A1 A2 A3 A4 A5 : Type} {body : (SS → A1 → A2 → A3 → A4 → A5 → Option β) → SS → A1 → A2 → A3 → A4 → A5 → Option β} (I : Nat → SS → A1 → A2 → A3 → A4 → A5 → Prop) (O : Option β → Prop)
    (hs : ∀ (g : (SS → A1 → A2 → A3 → A4 → A5 → Option β)) (k : Nat) (σ : SS) (x1 : A1) (x2 : A2) (x3 : A3) (x4 : A4) (x5 : A5), I k σ x1 x2 x3 x4 x5 → (∀ (k' : Nat) (σ' : SS) (y1 : A1) (y2 : A2) (y3 : A3) (y4 : A4) (y5 : A5), k' < k → I k' σ' y1 y2 y3 y4 y5 → O (g σ' y1 y2 y3 y4 y5)) → O (body g σ x1 x2 x3 x4 x5)) : ∀ (n k : Nat) (σ : SS) (x1 : A1) (x2 : A2) (x3 : A3) (x4 : A4) (x5 : A5), k < n → I k σ x1 x2 x3 x4 x5 → O (L5 body n σ x1 x2 x3 x4 x5) := by
  intro n
  induction n with
  | zero => intro k σ x1 x2 x3 x4 x5 h; exact absurd h (Nat.not_lt_zero k)
  | succ n ih => intro k σ x1 x2 x3 x4 x5 h hI; exact hs (L5 body n) k σ x1 x2 x3 x4 x5 hI (fun k' σ' y1 y2 y3 y4 y5 hk hI' => ih k' σ' y1 y2 y3 y4 y5 (by omega) hI')
theorem L6_rule {β : Type} {A1 A2 A3 A4 A5 A6 : Type} {body : (SS → A1 → A2 → A3 → A4 → A5 → A6 → Option β) → SS → A1 → A2 → A3 → A4 → A5 → A6 → Option β} (I : Nat → SS → A1 → A2 → A3 → A4 → A5 → A6 → Prop) (O : Option β → Prop)
    (hs : ∀ (g : (SS → A1 → A2 → A3 → A4 → A5 → A6 → Option β)) (k : Nat) (σ : SS) (x1 : A1) (x2 : A2) (x3 : A3) (x4 : A4) (x5 : A5) (x6 : A6), I k σ x1 x2 x3 x4 x5 x6 → (∀ (k' : Nat) (σ' : SS) (y1 : A1) (y2 : A2) (y3 : A3) (y4 : A4) (y5 : A5) (y6 : A6), k' < k → I k' σ' y1 y2 y3 y4 y5 y6 → O (g σ' y1 y2 y3 y4 y5 y6)) → O (body g σ x1 x2 x3 x4 x5 x6)) : ∀ (n k : Nat) (σ : SS) (x1 : A1) (x2 : A2) (x3 : A3) (x4 : A4) (x5 : A5) (x6 : A6), k < n → I k σ x1 x2 x3 x4 x5 x6 → O (L6 body n σ x1 x2 x3 x4 x5 x6) := by
  intro n
  induction n with
  | zero => intro k σ x1 x2 x3 x4 x5 x6 h; exact absurd h (Nat.not_lt_zero k)
  | succ n ih => intro k σ x1 x2 x3 x4 x5 x6 h hI; exact hs (L6 body n) k σ x1 x2 x3 x4 x5 x6 hI (fun k' σ' y1 y2 y3 y4 y5 y6 hk hI' => ih k' σ' y1 y2 y3 y4 y5 y6 (by omega) hI')
theorem L7_rule {β : Type} {A1 A2 A3 A4 A5 A6 A7 : Type} {body : (SS → A1 → A2 → A3 → A4 → A5 → A6 → A7 → Option β) → SS → A1 → A2 → A3 → A4 → A5 → A6 → A7 → Option β} (I : Nat → SS → A1 → A2 → A3 → A4 → A5 → A6 → A7 → Prop) (O : Option β → Prop)
    (hs : ∀ (g : (SS → A1 → A2 → A3 → A4 → A5 → A6 → A7 → Option β)) (k : Nat) (σ : SS) (x1 : A1) (x2 : A2) (x3 : A3) (x4 : A4) (x5 : A5) (x6 : A6) (x7 : A7), I k σ x1 x2 x3 x4 x5 x6 x7 → (∀ (k' : Nat) (σ' : SS) (y1 : A1) (y2 : A2) (y3 : A3) (y4 : A4) (y5 : A5) (y6 : A6) (y7 : A7), k' < k → I k' σ' y1 y2 y3 y4 y5 y6 y7 → O (g σ' y1 y2 y3 y4 y5 y6 y7)) → O (body g σ x1 x2 x3 x4 x5 x6 x7)) : ∀ (n k : Nat) (σ : SS) (x1 : A1) (x2 : A2) (x3 : A3) (x4 : A4) (x5 : A5) (x6 : A6) (x7 : A7), k < n → I k σ x1 x2 x3 x4 x5 x6 x7 → O (L7 body n σ x1 x2 x3 x4 x5 x6 x7) := by
  intro n
  induction n with
  | zero => intro k σ x1 x2 x3 x4 x5 x6 x7 h; exact absurd h (Nat.not_lt_zero k)
  | succ n ih => intro k σ x1 x2 x3 x4 x5 x6 x7 h hI; exact hs (L7 body n) k σ x1 x2 x3 x4 x5 x6 x7 hI (fun k' σ' y1 y2 y3 y4 y5 y6 y7 hk hI' => ih k' σ' y1 y2 y3 y4 y5 y6 y7 (by omega) hI')
