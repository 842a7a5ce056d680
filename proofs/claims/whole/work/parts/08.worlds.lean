def putI (σ : SS) (k : Nat) (x : Int32) : SS := (va_up σ.1 k x, σ.2)
def putR (σ : SS) (k : Nat) (f : Nat → Int32) : SS := (σ.1, va_up σ.2 k f)
def putA (σ : SS) (k j : Nat) (x : Int32) : SS := (σ.1, va_up σ.2 k (upd (σ.2 k) j x))
def L0 {β : Type} (body : (SS → Option β) → SS → Option β) : Nat → SS → Option β
  | 0 => fun _ => none
  | n + 1 => body (L0 body n)
theorem L0_at {β : Type} {P : SS → Prop} {b : β} {body : (SS → Option β) → SS → Option β} (h : ∀ g : (SS → Option β), (∀ (σ : SS), g σ = some b → P σ) → ∀ (σ : SS), body g σ = some b → P σ) : ∀ (n : Nat) (σ : SS), L0 body n σ = some b → P σ := by
  intro n
  induction n with
  | zero => intro σ hf; cases hf
  | succ n ih => exact h (L0 body n) ih
def L1 {β : Type} {A1 : Type} (body : (SS → A1 → Option β) → SS → A1 → Option β) : Nat → SS → A1 → Option β
  | 0 => fun _ _ => none
  | n + 1 => body (L1 body n)
theorem L1_at {β : Type} {A1 : Type} {P : SS → A1 → Prop} {b : β} {body : (SS → A1 → Option β) → SS → A1 → Option β} (h : ∀ g : (SS → A1 → Option β), (∀ (σ : SS) (x1 : A1), g σ x1 = some b → P σ x1) → ∀ (σ : SS) (x1 : A1), body g σ x1 = some b → P σ x1) : ∀ (n : Nat) (σ : SS) (x1 : A1), L1 body n σ x1 = some b → P σ x1 := by
  intro n
  induction n with
  | zero => intro σ x1 hf; cases hf
  | succ n ih => exact h (L1 body n) ih
def L2 {β : Type} {A1 A2 : Type} (body : (SS → A1 → A2 → Option β) → SS → A1 → A2 → Option β) : Nat → SS → A1 → A2 → Option β
  | 0 => fun _ _ _ => none
  | n + 1 => body (L2 body n)
theorem L2_at {β : Type} {A1 A2 : Type} {P : SS → A1 → A2 → Prop} {b : β} {body : (SS → A1 → A2 → Option β) → SS → A1 → A2 → Option β} (h : ∀ g : (SS → A1 → A2 → Option β), (∀ (σ : SS) (x1 : A1) (x2 : A2), g σ x1 x2 = some b → P σ x1 x2) → ∀ (σ : SS) (x1 : A1) (x2 : A2), body g σ x1 x2 = some b → P σ x1 x2) : ∀ (n : Nat) (σ : SS) (x1 : A1) (x2 : A2), L2 body n σ x1 x2 = some b → P σ x1 x2 := by
  intro n
  induction n with
  | zero => intro σ x1 x2 hf; cases hf
  | succ n ih => exact h (L2 body n) ih
def L3 {β : Type} {A1 A2 A3 : Type} (body : (SS → A1 → A2 → A3 → Option β) → SS → A1 → A2 → A3 → Option β) : Nat → SS → A1 → A2 → A3 → Option β
  | 0 => fun _ _ _ _ => none
  | n + 1 => body (L3 body n)
theorem L3_at {β : Type} {A1 A2 A3 : Type} {P : SS → A1 → A2 → A3 → Prop} {b : β} {body : (SS → A1 → A2 → A3 → Option β) → SS → A1 → A2 → A3 → Option β} (h : ∀ g : (SS → A1 → A2 → A3 → Option β), (∀ (σ : SS) (x1 : A1) (x2 : A2) (x3 : A3), g σ x1 x2 x3 = some b → P σ x1 x2 x3) → ∀ (σ : SS) (x1 : A1) (x2 : A2) (x3 : A3), body g σ x1 x2 x3 = some b → P σ x1 x2 x3) : ∀ (n : Nat) (σ : SS) (x1 : A1) (x2 : A2) (x3 : A3), L3 body n σ x1 x2 x3 = some b → P σ x1 x2 x3 := by
  intro n
  induction n with
  | zero => intro σ x1 x2 x3 hf; cases hf
  | succ n ih => exact h (L3 body n) ih
def L4 {β : Type} {A1 A2 A3 A4 : Type} (body : (SS → A1 → A2 → A3 → A4 → Option β) → SS → A1 → A2 → A3 → A4 → Option β) : Nat → SS → A1 → A2 → A3 → A4 → Option β
  | 0 => fun _ _ _ _ _ => none
  | n + 1 => body (L4 body n)
theorem L4_at {β : Type} {A1 A2 A3 A4 : Type} {P : SS → A1 → A2 → A3 → A4 → Prop} {b : β} {body : (SS → A1 → A2 → A3 → A4 → Option β) → SS → A1 → A2 → A3 → A4 → Option β} (h : ∀ g : (SS → A1 → A2 → A3 → A4 → Option β), (∀ (σ : SS) (x1 : A1) (x2 : A2) (x3 : A3) (x4 : A4), g σ x1 x2 x3 x4 = some b → P σ x1 x2 x3 x4) → ∀ (σ : SS) (x1 : A1) (x2 : A2) (x3 : A3) (x4 : A4), body g σ x1 x2 x3 x4 = some b → P σ x1 x2 x3 x4) : ∀ (n : Nat) (σ : SS) (x1 : A1) (x2 : A2) (x3 : A3) (x4 : A4), L4 body n σ x1 x2 x3 x4 = some b → P σ x1 x2 x3 x4 := by
  intro n
  induction n with
  | zero => intro σ x1 x2 x3 x4 hf; cases hf
  | succ n ih => exact h (L4 body n) ih
def L5 {β : Type} {A1 A2 A3 A4 A5 : Type} (body : (SS → A1 → A2 → A3 → A4 → A5 → Option β) → SS → A1 → A2 → A3 → A4 → A5 → Option β) : Nat → SS → A1 → A2 → A3 → A4 → A5 → Option β
  | 0 => fun _ _ _ _ _ _ => none
  | n + 1 => body (L5 body n)
theorem L5_at {β : Type} {A1 A2 A3 A4 A5 : Type} {P : SS → A1 → A2 → A3 → A4 → A5 → Prop} {b : β} {body : (SS → A1 → A2 → A3 → A4 → A5 → Option β) → SS → A1 → A2 → A3 → A4 → A5 → Option β} (h : ∀ g : (SS → A1 → A2 → A3 → A4 → A5 → Option β), (∀ (σ : SS) (x1 : A1) (x2 : A2) (x3 : A3) (x4 : A4) (x5 : A5), g σ x1 x2 x3 x4 x5 = some b → P σ x1 x2 x3 x4 x5) → ∀ (σ : SS) (x1 : A1) (x2 : A2) (x3 : A3) (x4 : A4) (x5 : A5), body g σ x1 x2 x3 x4 x5 = some b → P σ x1 x2 x3 x4 x5) : ∀ (n : Nat) (σ : SS) (x1 : A1) (x2 : A2) (x3 : A3) (x4 : A4) (x5 : A5), L5 body n σ x1 x2 x3 x4 x5 = some b → P σ x1 x2 x3 x4 x5 := by
  intro n
  induction n with
  | zero => intro σ x1 x2 x3 x4 x5 hf; cases hf
  | succ n ih => exact h (L5 body n) ih
def L6 {β : Type} {A1 A2 A3 A4 A5 A6 : Type} (body : (SS → A1 → A2 → A3 → A4 → A5 → A6 → Option β) → SS → A1 → A2 → A3 → A4 → A5 → A6 → Option β) : Nat → SS → A1 → A2 → A3 → A4 → A5 → A6 → Option β
  | 0 => fun _ _ _ _ _ _ _ => none
  | n + 1 => body (L6 body n)
theorem L6_at {β : Type} {A1 A2 A3 A4 A5 A6 : Type} {P : SS → A1 → A2 → A3 → A4 → A5 → A6 → Prop} {b : β} {body : (SS → A1 → A2 → A3 → A4 → A5 → A6 → Option β) → SS → A1 → A2 → A3 → A4 → A5 → A6 → Option β} (h : ∀ g : (SS → A1 → A2 → A3 → A4 → A5 → A6 → Option β), (∀ (σ : SS) (x1 : A1) (x2 : A2) (x3 : A3) (x4 : A4) (x5 : A5) (x6 : A6), g σ x1 x2 x3 x4 x5 x6 = some b → P σ x1 x2 x3 x4 x5 x6) → ∀ (σ : SS) (x1 : A1) (x2 : A2) (x3 : A3) (x4 : A4) (x5 : A5) (x6 : A6), body g σ x1 x2 x3 x4 x5 x6 = some b → P σ x1 x2 x3 x4 x5 x6) : ∀ (n : Nat) (σ : SS) (x1 : A1) (x2 : A2) (x3 : A3) (x4 : A4) (x5 : A5) (x6 : A6), L6 body n σ x1 x2 x3 x4 x5 x6 = some b → P σ x1 x2 x3 x4 x5 x6 := by
  intro n
  induction n with
  | zero => intro σ x1 x2 x3 x4 x5 x6 hf; cases hf
  | succ n ih => exact h (L6 body n) ih
def L7 {β : Type} {A1 A2 A3 A4 A5 A6 A7 : Type} (body : (SS → A1 → A2 → A3 → A4 → A5 → A6 → A7 → Option β) → SS → A1 → A2 → A3 → A4 → A5 → A6 → A7 → Option β) : Nat → SS → A1 → A2 → A3 → A4 → A5 → A6 → A7 → Option β
  | 0 => fun _ _ _ _ _ _ _ _ => none
  | n + 1 => body (L7 body n)
theorem L7_at {β : Type} {A1 A2 A3 A4 A5 A6 A7 : Type} {P : SS → A1 → A2 → A3 → A4 → A5 → A6 → A7 → Prop} {b : β} {body : (SS → A1 → A2 → A3 → A4 → A5 → A6 → A7 → Option β) → SS → A1 → A2 → A3 → A4 → A5 → A6 → A7 → Option β} (h : ∀ g : (SS → A1 → A2 → A3 → A4 → A5 → A6 → A7 → Option β), (∀ (σ : SS) (x1 : A1) (x2 : A2) (x3 : A3) (x4 : A4) (x5 : A5) (x6 : A6) (x7 : A7), g σ x1 x2 x3 x4 x5 x6 x7 = some b → P σ x1 x2 x3 x4 x5 x6 x7) → ∀ (σ : SS) (x1 : A1) (x2 : A2) (x3 : A3) (x4 : A4) (x5 : A5) (x6 : A6) (x7 : A7), body g σ x1 x2 x3 x4 x5 x6 x7 = some b → P σ x1 x2 x3 x4 x5 x6 x7) : ∀ (n : Nat) (σ : SS) (x1 : A1) (x2 : A2) (x3 : A3) (x4 : A4) (x5 : A5) (x6 : A6) (x7 : A7), L7 body n σ x1 x2 x3 x4 x5 x6 x7 = some b → P σ x1 x2 x3 x4 x5 x6 x7 := by
  intro n
  induction n with
  | zero => intro σ x1 x2 x3 x4 x5 x6 x7 hf; cases hf
  | succ n ih => exact h (L7 body n) ih
def L8 {β : Type} {A1 A2 A3 A4 A5 A6 A7 A8 : Type} (body : (SS → A1 → A2 → A3 → A4 → A5 → A6 → A7 → A8 → Option β) → SS → A1 → A2 → A3 → A4 → A5 → A6 → A7 → A8 → Option β) : Nat → SS → A1 → A2 → A3 → A4 → A5 → A6 → A7 → A8 → Option β
  | 0 => fun _ _ _ _ _ _ _ _ _ => none
  | n + 1 => body (L8 body n)
theorem L8_at {β : Type} {A1 A2 A3 A4 A5 A6 A7 A8 : Type} {P : SS → A1 → A2 → A3 → A4 → A5 → A6 → A7 → A8 → Prop} {b : β} {body : (SS → A1 → A2 → A3 → A4 → A5 → A6 → A7 → A8 → Option β) → SS → A1 → A2 → A3 → A4 → A5 → A6 → A7 → A8 → Option β} (h : ∀ g : (SS → A1 → A2 → A3 → A4 → A5 → A6 → A7 → A8 → Option β), (∀ (σ : SS) (x1 : A1) (x2 : A2) (x3 : A3) (x4 : A4) (x5 : A5) (x6 : A6) (x7 : A7) (x8 : A8), g σ x1 x2 x3 x4 x5 x6 x7 x8 = some b → P σ x1 x2 x3 x4 x5 x6 x7 x8) → ∀ (σ : SS) (x1 : A1) (x2 : A2) (x3 : A3) (x4 : A4) (x5 : A5) (x6 : A6) (x7 : A7) (x8 : A8), body g σ x1 x2 x3 x4 x5 x6 x7 x8 = some b → P σ x1 x2 x3 x4 x5 x6 x7 x8) : ∀ (n : Nat) (σ : SS) (x1 : A1) (x2 : A2) (x3 : A3) (x4 : A4) (x5 : A5) (x6 : A6) (x7 : A7) (x8 : A8), L8 body n σ x1 x2 x3 x4 x5 x6 x7 x8 = some b → P σ x1 x2 x3 x4 x5 x6 x7 x8 := by
  intro n
  induction n with
  | zero => intro σ x1 x2 x3 x4 x5 x6 x7 x8 hf; cases hf
  | succ n ih => exact h (L8 body n) ih
def At (p : Program) (l : Launch) (e : Env) (fr lo : Nat) (s : State) (m : MethodId) (args : Array Value) (below : List Frame) (meth : Method) (c : Code) (D : va_G) (w : SS → va_W) (as : List Nat) (cy : ClassId) (v : Option Value) (σ' : SS) (nL pc : Nat) (lv : List (Nat × Value)) (st : List Value) (σ : SS) : Prop :=
  ∀ (H : Heap) (locs : List Loc) (ls : Array Slot), GW D w as cy s s.heap H locs σ → lv_has ls nL lv → W p l e { frames := fr, cells := 0, slots := 0, locals := lo } s m args below meth c H locs 0 0 (MQ below (Qw D w v σ' (cA as s.heap.size)) args s 0 0 (cA as s.heap.size)) (F0 m pc ls st)
def gc {β : Type} (n : Int32) (N : Nat) (k : Option β) : Option β := if n < 0 ∨ N < n.toNatClampNeg then none else k
theorem gc_some {β : Type} {n : Int32} {N : Nat} {k : Option β} {b : β} (h : gc n N k = some b) : ¬ n < 0 ∧ n.toNatClampNeg ≤ N ∧ k = some b := by
  unfold gc at h
  by_cases hc : n < 0 ∨ N < n.toNatClampNeg
  · rw [if_pos hc] at h; cases h
  · rw [if_neg hc] at h; exact ⟨fun q => hc (Or.inl q), Nat.not_lt.mp (fun q => hc (Or.inr q)), h⟩
theorem or2_some {β : Type} {r a b : Nat} {A B : Option β} {x : β} (h : (if r = a then A else if r = b then B else none) = some x) : (r = a ∧ A = some x) ∨ (r = b ∧ B = some x) := by
  by_cases h1 : r = a
  · rw [if_pos h1] at h; exact Or.inl ⟨h1, h⟩
  · rw [if_neg h1] at h
    by_cases h2 : r = b
    · rw [if_pos h2] at h; exact Or.inr ⟨h2, h⟩
    · rw [if_neg h2] at h; cases h
section MORE
variable {p : Program} {l : Launch} {e : Env} {R : Room} {s : State} {m : MethodId} {args : Array Value} {below : List Frame} {meth : Method} {c : Code} {H : Heap} {locs : List Loc} {cells slots : Nat} {Q : State → Prop}
variable {cc : ByteArray} {pc nL idx : Nat} {ls : Array Slot} {rest : List Value} {D : va_G} {w : SS → va_W} {as : List Nat} {cy : ClassId} {H0 : Heap} {σ σ' : SS} {own : String} {a b : Nat}
theorem r_a {ad : Nat → Nat} {x r : Nat} {C : String} (E : CallFix p m c cc nL s args TT own) (hr : meth.sig.returnType = some (.object C)) (hlk : meth.locks = false) (hG : GW D w as cy s s.heap H locs σ) (hf : some (x, σ) = some (r, σ')) (hdg : decode cc pc = .ok (.areturn, 1)) :
    W p l e R s m args below meth c H locs cells slots (MQ below (Qw D w (some (.ref (ad r))) σ' (cA as s.heap.size)) args s cells slots (cA as s.heap.size)) (F0 m pc ls [.ref (ad x)]) := by
  cases hf
  exact W.aret E.1 E.2.1 hr (Or.inl ⟨_, rfl⟩) (Or.inr ⟨_, rfl⟩) (fun t ht _ => ⟨⟨rfl, by rw [ht]; exact hG.2.2.1⟩, hG.2.2.2.2.F ht⟩) hG.2.2.2.2.2.2 hdg hlk
theorem g_cpy (E : CallFix p m c cc nL s args TT own) (hG : GW D w as cy s H0 H locs σ) (q0 q1 : Nat) {N0 N1 N : Nat} {f g : Nat → Int32} (ha : (w σ)[q0]? = some (a, .inl (cy, N0, .inl f))) (hb : (w σ)[q1]? = some (b, .inl (cy, N1, .inl g))) {n : Int32} (h1 : ¬ n < 0) (h2 : n.toNatClampNeg ≤ N) (h3 : n.toNatClampNeg ≤ N0) (h4 : N = N1)
    (w1 : Cond.methodLink own idx arraycopyName ∈ TT) (w2 : Cond.native arraycopyName ∈ TT) (w3 : Cond.static arraycopyName ∈ TT) (w4 : Cond.initialized "java/lang/System" ∈ TT) (hsz : ls.size = nL) (hR1 : 1 ≤ R.frames) (hR2 : (rest.map fun v => v.category).sum + (nativeFrameWords "java/lang/System" "arraycopy" 5 + 11) ≤ R.locals)
    (hset : (w σ).set q1 (b, .inl (cy, N1, .inl (va_cpy f g 0 0 n.toNatClampNeg))) = w σ') (hdg : decode cc pc = .ok (.invokestatic idx, 3))
    (kk : ∀ (H1 : Heap) (locs1 : List Loc), GW D w as cy s H0 H1 locs1 σ' → W p l e R s m args below meth c H1 locs1 cells slots Q (F0 m (pc + 3) ls rest)) : W p l e R s m args below meth c H locs cells slots Q (F0 m pc ls (.int n :: .int 0 :: .ref b :: .int 0 :: .ref a :: rest)) := by
  subst h4
  have z0 : (0 : Int32).toNatClampNeg = 0 := by decide
  refine va_copyi (ty := .int) E.1 E.2.1 (E.2.2.1.trans hsz.symm) E.2.2.2.1 (E.2.2.2.2 _ w1) (E.2.2.2.2 _ w2) (E.2.2.2.2 _ w3) (E.2.2.2.2 _ w4) hG.2.1.1 hG.2.2.1 hG.2.2.2.1 hG.2.2.2.2 q0 q1 0 0 ha hb rfl rfl rfl (by decide) (by decide) h1 (by rw [z0]; omega) (by rw [z0]; omega) (fun i _ => rfl) hR1 hR2 hdg (fun H1 locs1 hP hD hS => kk H1 locs1 ⟨hG.1, hG.2.1, ?_, ?_, hS⟩)
  · rw [← hset]; rw [z0] at hP; exact hP
  · rw [← hset]; rw [z0] at hD; exact hD
end MORE
theorem inTX0 : ∀ w ∈ u_ws RX0 TX0 9, w ∈ TT := List.forall_mem_cons.mpr ⟨Wd_151, List.forall_mem_cons.mpr ⟨Wd_153, List.forall_mem_cons.mpr ⟨Wd_155, List.forall_mem_cons.mpr ⟨Wd_157, List.forall_mem_cons.mpr ⟨Wd_159, List.forall_mem_cons.mpr ⟨Wd_161, List.forall_mem_cons.mpr ⟨Wd_163, List.forall_mem_cons.mpr ⟨Wd_165, List.forall_mem_cons.mpr ⟨Wd_167, fun _ h => absurd h List.not_mem_nil⟩⟩⟩⟩⟩⟩⟩⟩⟩
theorem inTX1 : ∀ w ∈ u_ws RX1 TX1 2, w ∈ TT := List.forall_mem_cons.mpr ⟨Wd_189, List.forall_mem_cons.mpr ⟨Wd_191, fun _ h => absurd h List.not_mem_nil⟩⟩
theorem inTX2 : ∀ w ∈ u_ws RX2 TX2 5, w ∈ TT := List.forall_mem_cons.mpr ⟨Wd_247, List.forall_mem_cons.mpr ⟨Wd_249, List.forall_mem_cons.mpr ⟨Wd_251, List.forall_mem_cons.mpr ⟨Wd_253, List.forall_mem_cons.mpr ⟨Wd_255, fun _ h => absurd h List.not_mem_nil⟩⟩⟩⟩⟩
theorem inTX3 : ∀ w ∈ u_ws RX3 TX3 7, w ∈ TT := List.forall_mem_cons.mpr ⟨Wd_318, List.forall_mem_cons.mpr ⟨Wd_320, List.forall_mem_cons.mpr ⟨Wd_322, List.forall_mem_cons.mpr ⟨Wd_324, List.forall_mem_cons.mpr ⟨Wd_326, List.forall_mem_cons.mpr ⟨Wd_328, List.forall_mem_cons.mpr ⟨Wd_330, fun _ h => absurd h List.not_mem_nil⟩⟩⟩⟩⟩⟩⟩
theorem inTX4 : ∀ w ∈ u_ws RX4 TX4 1, w ∈ TT := List.forall_mem_cons.mpr ⟨Wd_183, fun _ h => absurd h List.not_mem_nil⟩
theorem inTX5 : ∀ w ∈ u_ws RX5 TX5 7, w ∈ TT := List.forall_mem_cons.mpr ⟨Wd_291, List.forall_mem_cons.mpr ⟨Wd_293, List.forall_mem_cons.mpr ⟨Wd_295, List.forall_mem_cons.mpr ⟨Wd_297, List.forall_mem_cons.mpr ⟨Wd_299, List.forall_mem_cons.mpr ⟨Wd_301, List.forall_mem_cons.mpr ⟨Wd_303, fun _ h => absurd h List.not_mem_nil⟩⟩⟩⟩⟩⟩⟩
theorem inTX6 : ∀ w ∈ u_ws RX6 TX6 5, w ∈ TT := List.forall_mem_cons.mpr ⟨Wd_264, List.forall_mem_cons.mpr ⟨Wd_265, List.forall_mem_cons.mpr ⟨Wd_266, List.forall_mem_cons.mpr ⟨Wd_267, List.forall_mem_cons.mpr ⟨Wd_268, fun _ h => absurd h List.not_mem_nil⟩⟩⟩⟩⟩
theorem inTX8 : ∀ w ∈ u_ws RX8 TX8 4, w ∈ TT := List.forall_mem_cons.mpr ⟨Wd_102, List.forall_mem_cons.mpr ⟨Wd_104, List.forall_mem_cons.mpr ⟨Wd_106, List.forall_mem_cons.mpr ⟨Wd_108, fun _ h => absurd h List.not_mem_nil⟩⟩⟩⟩
theorem inTX9 : ∀ w ∈ u_ws RX9 TX9 2, w ∈ TT := List.forall_mem_cons.mpr ⟨Wd_124, List.forall_mem_cons.mpr ⟨Wd_126, fun _ h => absurd h List.not_mem_nil⟩⟩
theorem inTX10 : ∀ w ∈ u_ws RX10 TX10 5, w ∈ TT := List.forall_mem_cons.mpr ⟨Wd_206, List.forall_mem_cons.mpr ⟨Wd_208, List.forall_mem_cons.mpr ⟨Wd_210, List.forall_mem_cons.mpr ⟨Wd_212, List.forall_mem_cons.mpr ⟨Wd_214, fun _ h => absurd h List.not_mem_nil⟩⟩⟩⟩⟩
theorem inTX11 : ∀ w ∈ u_ws RX11 TX11 8, w ∈ TT := List.forall_mem_cons.mpr ⟨Wd_341, List.forall_mem_cons.mpr ⟨Wd_343, List.forall_mem_cons.mpr ⟨Wd_345, List.forall_mem_cons.mpr ⟨Wd_347, List.forall_mem_cons.mpr ⟨Wd_349, List.forall_mem_cons.mpr ⟨Wd_351, List.forall_mem_cons.mpr ⟨Wd_353, List.forall_mem_cons.mpr ⟨Wd_355, fun _ h => absurd h List.not_mem_nil⟩⟩⟩⟩⟩⟩⟩⟩
theorem inTX12 : ∀ w ∈ u_ws RX12 TX12 25, w ∈ TT := List.forall_mem_cons.mpr ⟨Wd_774, List.forall_mem_cons.mpr ⟨Wd_776, List.forall_mem_cons.mpr ⟨Wd_778, List.forall_mem_cons.mpr ⟨Wd_780, List.forall_mem_cons.mpr ⟨Wd_782, List.forall_mem_cons.mpr ⟨Wd_784, List.forall_mem_cons.mpr ⟨Wd_786, List.forall_mem_cons.mpr ⟨Wd_788, List.forall_mem_cons.mpr ⟨Wd_790, List.forall_mem_cons.mpr ⟨Wd_792, List.forall_mem_cons.mpr ⟨Wd_794, List.forall_mem_cons.mpr ⟨Wd_796, List.forall_mem_cons.mpr ⟨Wd_798, List.forall_mem_cons.mpr ⟨Wd_800, List.forall_mem_cons.mpr ⟨Wd_802, List.forall_mem_cons.mpr ⟨Wd_804, List.forall_mem_cons.mpr ⟨Wd_806, List.forall_mem_cons.mpr ⟨Wd_808, List.forall_mem_cons.mpr ⟨Wd_810, List.forall_mem_cons.mpr ⟨Wd_812, List.forall_mem_cons.mpr ⟨Wd_814, List.forall_mem_cons.mpr ⟨Wd_816, List.forall_mem_cons.mpr ⟨Wd_818, List.forall_mem_cons.mpr ⟨Wd_820, List.forall_mem_cons.mpr ⟨Wd_822, fun _ h => absurd h List.not_mem_nil⟩⟩⟩⟩⟩⟩⟩⟩⟩⟩⟩⟩⟩⟩⟩⟩⟩⟩⟩⟩⟩⟩⟩⟩⟩
/-! the state of the class:
  array 0 (cell 2, 400) = EntropyBounds$Text.signs
  array 1 (cell 3, 16) = EntropyBounds$Text.totals
  int 0 = EntropyBounds$Text.size
  int 1 = EntropyBounds$Text.changes
  array 2 (cell 5, 16) = EntropyBounds$Weights.of
  int 2 = EntropyBounds$Weights.sum
  array 3 (cell 7, 400) = EntropyBounds$Contexts.codes
  array 4 (cell 8, 400) = EntropyBounds$Contexts.alls
  array 5 (cell 9, 400) = EntropyBounds$Contexts.entryContexts
  array 6 (cell 10, 400) = EntropyBounds$Contexts.entrySigns
  array 7 (cell 11, 400) = EntropyBounds$Contexts.entryCounts
  int 3 = EntropyBounds$Contexts.order
  int 4 = EntropyBounds$Contexts.known
  int 5 = EntropyBounds$Contexts.entries
  int 6 = EntropyBounds$Contexts.seenChanges
  array 8 (cell 14, 832) = EntropyBounds$Logs.kept
  array 9 (cell 15, 16) = EntropyBounds$Costs.before
  array 10 (cell 17, 16) = EntropyBounds$Words.widths
  array 11 (cell 18, 32) = EntropyBounds$Words.treeNumbers
  array 12 (cell 19, 16) = EntropyBounds$Words.treeOfSign
  int 7 = EntropyBounds$Words.trees
  int 8 = EntropyBounds$Words.seenChanges
  array 13 (cell 21, 400) = EntropyBounds$Factors.places
  array 14 (cell 22, 400) = EntropyBounds$Factors.sizes
  array 15 (cell 23, 400) = EntropyBounds$Factors.sources
  int 9 = EntropyBounds$Factors.total
  int 10 = EntropyBounds$Factors.seenChanges
  array 16 (cell 25, 400) = EntropyBounds$Phrases.places
  array 17 (cell 26, 400) = EntropyBounds$Phrases.sizes
  array 18 (cell 27, 400) = EntropyBounds$Phrases.sources
  int 11 = EntropyBounds$Phrases.total
  int 12 = EntropyBounds$Phrases.seenChanges
  array 19 (cell 30, 216) = EntropyBounds$Pairs.heads
  array 20 (cell 31, 400) = EntropyBounds$Pairs.nexts
  array 21 (cell 32, 400) = EntropyBounds$Pairs.firsts
  array 22 (cell 33, 400) = EntropyBounds$Pairs.seconds
  array 23 (cell 34, 400) = EntropyBounds$Pairs.counts
  array 24 (cell 35, 400) = EntropyBounds$Pairs.lastPlaces
  int 13 = EntropyBounds$Pairs.total
  array 25 (cell 36, 400) = EntropyBounds$Grammar.row
  array 26 (cell 37, 200) = EntropyBounds$Grammar.firsts
  array 27 (cell 38, 200) = EntropyBounds$Grammar.seconds
  int 14 = EntropyBounds$Grammar.rowSize
  int 15 = EntropyBounds$Grammar.total
  int 16 = EntropyBounds$Grammar.seenChanges -/
def cw (ad : Nat → Nat) (cy : ClassId) (σ : SS) : va_W := [(ad 0, .inr (12, [.ref (ad 1), .ref (ad 4), .ref (ad 6), .ref (ad 12), .ref (ad 16), .ref (ad 20), .ref (ad 24), .ref (ad 28)])),
  (ad 1, .inr (9, [.ref (ad 2), .ref (ad 3), .int (σ.1 0), .int (σ.1 1)])),
  (ad 2, .inl (cy, 400, .inl (σ.2 0))),
  (ad 3, .inl (cy, 16, .inl (σ.2 1))),
  (ad 4, .inr (10, [.ref (ad 5), .int (σ.1 2)])),
  (ad 5, .inl (cy, 16, .inl (σ.2 2))),
  (ad 6, .inr (2, [.ref (ad 7), .ref (ad 8), .ref (ad 9), .ref (ad 10), .ref (ad 11), .int (σ.1 3), .int (σ.1 4), .int (σ.1 5), .int (σ.1 6)])),
  (ad 7, .inl (cy, 400, .inl (σ.2 3))),
  (ad 8, .inl (cy, 400, .inl (σ.2 4))),
  (ad 9, .inl (cy, 400, .inl (σ.2 5))),
  (ad 10, .inl (cy, 400, .inl (σ.2 6))),
  (ad 11, .inl (cy, 400, .inl (σ.2 7))),
  (ad 12, .inr (3, [.ref (ad 13), .ref (ad 15)])),
  (ad 13, .inr (6, [.ref (ad 14)])),
  (ad 14, .inl (cy, 832, .inl (σ.2 8))),
  (ad 15, .inl (cy, 16, .inl (σ.2 9))),
  (ad 16, .inr (11, [.ref (ad 17), .ref (ad 18), .ref (ad 19), .int (σ.1 7), .int (σ.1 8)])),
  (ad 17, .inl (cy, 16, .inl (σ.2 10))),
  (ad 18, .inl (cy, 32, .inl (σ.2 11))),
  (ad 19, .inl (cy, 16, .inl (σ.2 12))),
  (ad 20, .inr (4, [.ref (ad 21), .ref (ad 22), .ref (ad 23), .int (σ.1 9), .int (σ.1 10)])),
  (ad 21, .inl (cy, 400, .inl (σ.2 13))),
  (ad 22, .inl (cy, 400, .inl (σ.2 14))),
  (ad 23, .inl (cy, 400, .inl (σ.2 15))),
  (ad 24, .inr (8, [.ref (ad 25), .ref (ad 26), .ref (ad 27), .int (σ.1 11), .int (σ.1 12)])),
  (ad 25, .inl (cy, 400, .inl (σ.2 16))),
  (ad 26, .inl (cy, 400, .inl (σ.2 17))),
  (ad 27, .inl (cy, 400, .inl (σ.2 18))),
  (ad 28, .inr (5, [.ref (ad 29), .ref (ad 36), .ref (ad 37), .ref (ad 38), .int (σ.1 14), .int (σ.1 15), .int (σ.1 16)])),
  (ad 29, .inr (7, [.ref (ad 30), .ref (ad 31), .ref (ad 32), .ref (ad 33), .ref (ad 34), .ref (ad 35), .int (σ.1 13)])),
  (ad 30, .inl (cy, 216, .inl (σ.2 19))),
  (ad 31, .inl (cy, 400, .inl (σ.2 20))),
  (ad 32, .inl (cy, 400, .inl (σ.2 21))),
  (ad 33, .inl (cy, 400, .inl (σ.2 22))),
  (ad 34, .inl (cy, 400, .inl (σ.2 23))),
  (ad 35, .inl (cy, 400, .inl (σ.2 24))),
  (ad 36, .inl (cy, 400, .inl (σ.2 25))),
  (ad 37, .inl (cy, 200, .inl (σ.2 26))),
  (ad 38, .inl (cy, 200, .inl (σ.2 27)))]
def cas (ad : Nat → Nat) : List Nat := [ad 0, ad 1, ad 2, ad 3, ad 4, ad 5, ad 6, ad 7, ad 8, ad 9, ad 10, ad 11, ad 12, ad 13, ad 14, ad 15, ad 16, ad 17, ad 18, ad 19, ad 20, ad 21, ad 22, ad 23, ad 24, ad 25, ad 26, ad 27, ad 28, ad 29, ad 30, ad 31, ad 32, ad 33, ad 34, ad 35, ad 36, ad 37, ad 38]
theorem cw_as (ad : Nat → Nat) (cy : ClassId) : ∀ σ, (cw ad cy σ).map Prod.fst = cas ad := fun _ => rfl
/-! the state of the reference:
  int 0 = EntropyBoundsModel.code
  int 1 = EntropyBoundsModel.length
  array 0 (cell 1, 400) = EntropyBoundsModel.text
  int 2 = EntropyBoundsModel.k
  array 1 (cell 2, 16) = EntropyBoundsModel.weight
  int 3 = EntropyBoundsModel.contexts
  array 2 (cell 3, 400) = EntropyBoundsModel.firstPlace
  array 3 (cell 4, 6400) = EntropyBoundsModel.counts
  array 4 (cell 5, 400) = EntropyBoundsModel.all
  int 4 = EntropyBoundsModel.trees
  array 5 (cell 6, 16) = EntropyBoundsModel.treeNumber
  array 6 (cell 7, 16) = EntropyBoundsModel.treeSigns
  array 7 (cell 8, 16) = EntropyBoundsModel.wide
  int 5 = EntropyBoundsModel.takenNumber
  int 6 = EntropyBoundsModel.pieces
  array 8 (cell 9, 400) = EntropyBoundsModel.piecePlace
  array 9 (cell 10, 400) = EntropyBoundsModel.pieceLength
  array 10 (cell 11, 400) = EntropyBoundsModel.pieceOther
  int 7 = EntropyBoundsModel.rowLength
  array 11 (cell 12, 400) = EntropyBoundsModel.row
  int 8 = EntropyBoundsModel.rules
  array 12 (cell 13, 200) = EntropyBoundsModel.ruleFirst
  array 13 (cell 14, 200) = EntropyBoundsModel.ruleSecond
  int 9 = EntropyBoundsModel.madeLength
  array 14 (cell 15, 400) = EntropyBoundsModel.madeOf -/
def mw (ad : Nat → Nat) (cy : ClassId) (σ : SS) : va_W := [(ad 0, .inr (13, [.int (σ.1 0), .int (σ.1 1), .ref (ad 1), .int (σ.1 2), .ref (ad 2), .int (σ.1 3), .ref (ad 3), .ref (ad 4), .ref (ad 5), .int (σ.1 4), .ref (ad 6), .ref (ad 7), .ref (ad 8), .int (σ.1 5), .int (σ.1 6), .ref (ad 9), .ref (ad 10), .ref (ad 11), .int (σ.1 7), .ref (ad 12), .int (σ.1 8), .ref (ad 13), .ref (ad 14), .int (σ.1 9), .ref (ad 15)])),
  (ad 1, .inl (cy, 400, .inl (σ.2 0))),
  (ad 2, .inl (cy, 16, .inl (σ.2 1))),
  (ad 3, .inl (cy, 400, .inl (σ.2 2))),
  (ad 4, .inl (cy, 6400, .inl (σ.2 3))),
  (ad 5, .inl (cy, 400, .inl (σ.2 4))),
  (ad 6, .inl (cy, 16, .inl (σ.2 5))),
  (ad 7, .inl (cy, 16, .inl (σ.2 6))),
  (ad 8, .inl (cy, 16, .inl (σ.2 7))),
  (ad 9, .inl (cy, 400, .inl (σ.2 8))),
  (ad 10, .inl (cy, 400, .inl (σ.2 9))),
  (ad 11, .inl (cy, 400, .inl (σ.2 10))),
  (ad 12, .inl (cy, 400, .inl (σ.2 11))),
  (ad 13, .inl (cy, 200, .inl (σ.2 12))),
  (ad 14, .inl (cy, 200, .inl (σ.2 13))),
  (ad 15, .inl (cy, 400, .inl (σ.2 14)))]
def mas (ad : Nat → Nat) : List Nat := [ad 0, ad 1, ad 2, ad 3, ad 4, ad 5, ad 6, ad 7, ad 8, ad 9, ad 10, ad 11, ad 12, ad 13, ad 14, ad 15]
theorem mw_as (ad : Nat → Nat) (cy : ClassId) : ∀ σ, (mw ad cy σ).map Prod.fst = mas ad := fun _ => rfl
theorem mi_X11_within : MS yX11_within cX11_within 3 (some FieldType.boolean) 3 := ⟨⟨Wd_366, Wd_42, Wd_367⟩, by decide +kernel⟩
theorem mi_X11_isSign : MS yX11_isSign cX11_isSign 1 (some FieldType.boolean) 1 := ⟨⟨Wd_363, Wd_42, Wd_364⟩, by decide +kernel⟩
theorem mi_X8_append : MV yX8_append cX8_append 2 none RX8 1 := ⟨⟨Wd_369, Wd_370, Wd_43, Wd_371⟩, by decide +kernel⟩
theorem mi_J7_fill_53178 : MS yJ7_fill_53178 cJ7_fill_53178 4 none 2 := ⟨⟨Wd_381, Wd_55, Wd_382⟩, by decide +kernel⟩
theorem mi_X8_clear : MV yX8_clear cX8_clear 1 none RX8 0 := ⟨⟨Wd_377, Wd_378, Wd_43, Wd_379⟩, by decide +kernel⟩
theorem mi_X0_setOrder : MV yX0_setOrder cX0_setOrder 2 none RX0 1 := ⟨⟨Wd_388, Wd_389, Wd_45, Wd_390⟩, by decide +kernel⟩
theorem mi_X0_codeBefore : MV yX0_codeBefore cX0_codeBefore 5 (some FieldType.int) RX0 2 := ⟨⟨Wd_397, Wd_0, Wd_45, Wd_398⟩, by decide +kernel⟩
theorem mi_X0_numberOf : MV yX0_numberOf cX0_numberOf 3 (some FieldType.int) RX0 1 := ⟨⟨Wd_401, Wd_1, Wd_45, Wd_402⟩, by decide +kernel⟩
theorem mi_X0_findEntry : MV yX0_findEntry cX0_findEntry 4 (some FieldType.int) RX0 2 := ⟨⟨Wd_409, Wd_3, Wd_45, Wd_410⟩, by decide +kernel⟩
theorem mi_X0_entryOf : MV yX0_entryOf cX0_entryOf 4 (some FieldType.int) RX0 2 := ⟨⟨Wd_405, Wd_2, Wd_45, Wd_406⟩, by decide +kernel⟩
theorem mi_X0_follow : MV yX0_follow cX0_follow 4 none RX0 1 := ⟨⟨Wd_392, Wd_393, Wd_45, Wd_394⟩, by decide +kernel⟩
theorem mi_X0_signOf : MV yX0_signOf cX0_signOf 3 (some FieldType.int) RX0 2 := ⟨⟨Wd_416, Wd_417, Wd_45, Wd_418⟩, by decide +kernel⟩
theorem mi_X0_countOf : MV yX0_countOf cX0_countOf 4 (some FieldType.int) RX0 2 := ⟨⟨Wd_424, Wd_425, Wd_45, Wd_426⟩, by decide +kernel⟩
theorem mi_X11_isSide : MS yX11_isSide cX11_isSide 1 (some FieldType.boolean) 1 := ⟨⟨Wd_433, Wd_42, Wd_434⟩, by decide +kernel⟩
theorem mi_X4_greatestPower : MS yX4_greatestPower cX4_greatestPower 2 (some FieldType.int) 1 := ⟨⟨Wd_441, Wd_47, Wd_442⟩, by decide +kernel⟩
theorem mi_X4_fractionBits : MS yX4_fractionBits cX4_fractionBits 11 (some FieldType.int) 3 := ⟨⟨Wd_448, Wd_47, Wd_449⟩, by decide +kernel⟩
theorem mi_X4_fraction : MV yX4_fraction cX4_fraction 5 (some FieldType.int) RX4 3 := ⟨⟨Wd_445, Wd_4, Wd_47, Wd_446⟩, by decide +kernel⟩
theorem mi_X4_end : MV yX4_end cX4_end 9 (some FieldType.long) RX4 3 := ⟨⟨Wd_437, Wd_438, Wd_47, Wd_439⟩, by decide +kernel⟩
theorem mi_X9_replace : MV yX9_replace cX9_replace 4 (some FieldType.int) RX9 2 := ⟨⟨Wd_457, Wd_458, Wd_44, Wd_459⟩, by decide +kernel⟩
theorem mi_X1_partInWhole : MV yX1_partInWhole cX1_partInWhole 8 (some FieldType.long) RX1 4 := ⟨⟨Wd_482, Wd_6, Wd_46, Wd_483⟩, by decide +kernel⟩
theorem mi_X1_growing : MV yX1_growing cX1_growing 8 (some FieldType.long) RX1 3 := ⟨⟨Wd_493, Wd_494, Wd_46, Wd_495⟩, by decide +kernel⟩
theorem mi_X1_cross : MV yX1_cross cX1_cross 8 (some FieldType.long) RX1 4 := ⟨⟨Wd_489, Wd_490, Wd_46, Wd_491⟩, by decide +kernel⟩
theorem mi_X1_content : MV yX1_content cX1_content 9 (some FieldType.long) RX1 3 := ⟨⟨Wd_477, Wd_478, Wd_46, Wd_479⟩, by decide +kernel⟩
theorem mi_X11_costOfKind : MV yX11_costOfKind cX11_costOfKind 4 (some FieldType.long) RX11 3 := ⟨⟨Wd_474, Wd_5, Wd_42, Wd_475⟩, by decide +kernel⟩
theorem mi_X11_isCostKind : MS yX11_isCostKind cX11_isCostKind 1 (some FieldType.boolean) 1 := ⟨⟨Wd_465, Wd_42, Wd_466⟩, by decide +kernel⟩
theorem mi_X9_cover : MV yX9_cover cX9_cover 3 (some FieldType.boolean) RX9 1 := ⟨⟨Wd_468, Wd_469, Wd_44, Wd_470⟩, by decide +kernel⟩
theorem mi_X10_widenTree : MV yX10_widenTree cX10_widenTree 3 none RX10 1 := ⟨⟨Wd_517, Wd_8, Wd_48, Wd_518⟩, by decide +kernel⟩
theorem mi_X10_takeLeastTree : MV yX10_takeLeastTree cX10_takeLeastTree 5 (some FieldType.int) RX10 0 := ⟨⟨Wd_525, Wd_10, Wd_48, Wd_526⟩, by decide +kernel⟩
theorem mi_X10_joinTwoTrees : MV yX10_joinTwoTrees cX10_joinTwoTrees 2 none RX10 0 := ⟨⟨Wd_521, Wd_9, Wd_48, Wd_522⟩, by decide +kernel⟩
theorem mi_X10_plantTrees : MV yX10_plantTrees cX10_plantTrees 3 none RX10 1 := ⟨⟨Wd_513, Wd_7, Wd_48, Wd_514⟩, by decide +kernel⟩
theorem mi_X10_follow : MV yX10_follow cX10_follow 3 none RX10 1 := ⟨⟨Wd_508, Wd_509, Wd_48, Wd_510⟩, by decide +kernel⟩
theorem mi_X10_stepWidth : MS yX10_stepWidth cX10_stepWidth 3 (some FieldType.int) 2 := ⟨⟨Wd_532, Wd_48, Wd_533⟩, by decide +kernel⟩
theorem mi_X11_widthOfKind : MV yX11_widthOfKind cX11_widthOfKind 3 (some FieldType.int) RX11 2 := ⟨⟨Wd_529, Wd_11, Wd_42, Wd_530⟩, by decide +kernel⟩
theorem mu_X6_X7_add_X6 : MU ⟨"EntropyBounds$Phrases", "add", "(III)V"⟩ yX7_add "EntropyBounds$Pieces" cX7_add 4 none RX6 3 := ⟨⟨Wd_582, Wd_583, Wd_572, Wd_49, Wd_573⟩, by decide +kernel⟩
theorem mi_X6_findPhrase : MV yX6_findPhrase cX6_findPhrase 6 (some FieldType.int) RX6 3 := ⟨⟨Wd_579, Wd_14, Wd_51, Wd_580⟩, by decide +kernel⟩
theorem mu_X7_X6_cut_X6 : MU ⟨"EntropyBounds$Pieces", "cut", "(LEntropyBounds$Text;)V"⟩ yX6_cut "EntropyBounds$Pieces" cX6_cut 6 none RX6 1 := ⟨⟨Wd_554, Wd_574, Wd_575, Wd_51, Wd_576⟩, by decide +kernel⟩
theorem mu_X7_X7_follow_X6 : MU ⟨"EntropyBounds$Pieces", "follow", "(LEntropyBounds$Text;)V"⟩ yX7_follow "EntropyBounds$Pieces" cX7_follow 2 none RX6 1 := ⟨⟨Wd_548, Wd_550, Wd_547, Wd_49, Wd_551⟩, by decide +kernel⟩
theorem mu_X2_X7_add_X2 : MU ⟨"EntropyBounds$Factors", "add", "(III)V"⟩ yX7_add "EntropyBounds$Pieces" cX7_add 4 none RX2 3 := ⟨⟨Wd_569, Wd_571, Wd_572, Wd_49, Wd_573⟩, by decide +kernel⟩
theorem mi_X2_commonRun : MS yX2_commonRun cX2_commonRun 4 (some FieldType.int) 3 := ⟨⟨Wd_563, Wd_50, Wd_564⟩, by decide +kernel⟩
theorem mi_X2_addFactor : MV yX2_addFactor cX2_addFactor 7 none RX2 2 := ⟨⟨Wd_560, Wd_13, Wd_50, Wd_561⟩, by decide +kernel⟩
theorem mu_X7_X2_cut_X2 : MU ⟨"EntropyBounds$Pieces", "cut", "(LEntropyBounds$Text;)V"⟩ yX2_cut "EntropyBounds$Pieces" cX2_cut 4 none RX2 1 := ⟨⟨Wd_554, Wd_555, Wd_556, Wd_50, Wd_557⟩, by decide +kernel⟩
theorem mu_X7_X7_follow_X2 : MU ⟨"EntropyBounds$Pieces", "follow", "(LEntropyBounds$Text;)V"⟩ yX7_follow "EntropyBounds$Pieces" cX7_follow 2 none RX2 1 := ⟨⟨Wd_548, Wd_549, Wd_547, Wd_49, Wd_551⟩, by decide +kernel⟩
theorem mi_X11_cutPieces : MV yX11_cutPieces cX11_cutPieces 3 (some (FieldType.object "EntropyBounds$Pieces")) RX11 1 := ⟨⟨Wd_544, Wd_12, Wd_42, Wd_545⟩, by decide +kernel⟩
theorem mi_X5_pairOf : MV yX5_pairOf cX5_pairOf 5 (some FieldType.int) RX5 2 := ⟨⟨Wd_610, Wd_16, Wd_53, Wd_611⟩, by decide +kernel⟩
theorem mi_X5_tally : MV yX5_tally cX5_tally 5 none RX5 2 := ⟨⟨Wd_604, Wd_605, Wd_53, Wd_606⟩, by decide +kernel⟩
theorem mi_X5_goesBefore : MV yX5_goesBefore cX5_goesBefore 3 (some FieldType.boolean) RX5 2 := ⟨⟨Wd_618, Wd_17, Wd_53, Wd_619⟩, by decide +kernel⟩
theorem mi_X5_best : MV yX5_best cX5_best 3 (some FieldType.int) RX5 0 := ⟨⟨Wd_613, Wd_614, Wd_53, Wd_615⟩, by decide +kernel⟩
theorem mi_X3_replacePair : MV yX3_replacePair cX3_replacePair 7 none RX3 3 := ⟨⟨Wd_622, Wd_18, Wd_52, Wd_623⟩, by decide +kernel⟩
theorem mi_X3_addRule : MV yX3_addRule cX3_addRule 2 (some FieldType.boolean) RX3 0 := ⟨⟨Wd_601, Wd_15, Wd_52, Wd_602⟩, by decide +kernel⟩
theorem mi_X3_follow : MV yX3_follow cX3_follow 4 none RX3 1 := ⟨⟨Wd_593, Wd_594, Wd_52, Wd_595⟩, by decide +kernel⟩
theorem mi_X12_in : MS yX12_in cX12_in 6 (some FieldType.boolean) 3 := ⟨⟨Wd_838, Wd_54, Wd_839⟩, by decide +kernel⟩
theorem mi_X12_isSign : MS yX12_isSign cX12_isSign 1 (some FieldType.boolean) 1 := ⟨⟨Wd_834, Wd_54, Wd_835⟩, by decide +kernel⟩
theorem mi_X12_isSameAhead : MV yX12_isSameAhead cX12_isSameAhead 5 (some FieldType.boolean) RX12 2 := ⟨⟨Wd_859, Wd_21, Wd_54, Wd_860⟩, by decide +kernel⟩
theorem mi_X12_findContexts : MV yX12_findContexts cX12_findContexts 4 none RX12 0 := ⟨⟨Wd_855, Wd_20, Wd_54, Wd_856⟩, by decide +kernel⟩
theorem mi_X12_powerOf : MS yX12_powerOf cX12_powerOf 2 (some FieldType.int) 1 := ⟨⟨Wd_880, Wd_54, Wd_881⟩, by decide +kernel⟩
theorem mi_X12_highLog : MS yX12_highLog cX12_highLog 10 (some FieldType.long) 2 := ⟨⟨Wd_886, Wd_54, Wd_887⟩, by decide +kernel⟩
theorem mi_X12_lowLog : MS yX12_lowLog cX12_lowLog 8 (some FieldType.long) 2 := ⟨⟨Wd_877, Wd_54, Wd_878⟩, by decide +kernel⟩
theorem mi_X12_sumOfWeights : MV yX12_sumOfWeights cX12_sumOfWeights 3 (some FieldType.int) RX12 0 := ⟨⟨Wd_899, Wd_22, Wd_54, Wd_900⟩, by decide +kernel⟩
theorem mi_X12_costOf : MS yX12_costOf cX12_costOf 6 (some FieldType.long) 4 := ⟨⟨Wd_915, Wd_54, Wd_916⟩, by decide +kernel⟩
theorem mi_X12_often : MV yX12_often cX12_often 5 (some FieldType.int) RX12 2 := ⟨⟨Wd_923, Wd_26, Wd_54, Wd_924⟩, by decide +kernel⟩
theorem mi_X12_growing : MV yX12_growing cX12_growing 6 (some FieldType.long) RX12 2 := ⟨⟨Wd_928, Wd_27, Wd_54, Wd_929⟩, by decide +kernel⟩
theorem mi_X12_cross : MV yX12_cross cX12_cross 8 (some FieldType.long) RX12 2 := ⟨⟨Wd_919, Wd_25, Wd_54, Wd_920⟩, by decide +kernel⟩
theorem mi_X12_content : MV yX12_content cX12_content 8 (some FieldType.long) RX12 2 := ⟨⟨Wd_912, Wd_24, Wd_54, Wd_913⟩, by decide +kernel⟩
theorem mi_X12_costBy : MV yX12_costBy cX12_costBy 4 (some FieldType.long) RX12 3 := ⟨⟨Wd_908, Wd_23, Wd_54, Wd_909⟩, by decide +kernel⟩
theorem mi_X12_takeLeast : MV yX12_takeLeast cX12_takeLeast 4 (some FieldType.int) RX12 0 := ⟨⟨Wd_948, Wd_29, Wd_54, Wd_949⟩, by decide +kernel⟩
theorem mi_X12_isKind : MS yX12_isKind cX12_isKind 1 (some FieldType.boolean) 1 := ⟨⟨Wd_940, Wd_54, Wd_941⟩, by decide +kernel⟩
theorem mi_X12_findWords : MV yX12_findWords cX12_findWords 4 none RX12 0 := ⟨⟨Wd_944, Wd_28, Wd_54, Wd_945⟩, by decide +kernel⟩
theorem mi_X12_stepWidth : MV yX12_stepWidth cX12_stepWidth 5 (some FieldType.int) RX12 1 := ⟨⟨Wd_952, Wd_30, Wd_54, Wd_953⟩, by decide +kernel⟩
theorem mi_X12_alike : MV yX12_alike cX12_alike 4 (some FieldType.int) RX12 2 := ⟨⟨Wd_972, Wd_33, Wd_54, Wd_973⟩, by decide +kernel⟩
theorem mi_X12_put : MV yX12_put cX12_put 4 none RX12 3 := ⟨⟨Wd_976, Wd_34, Wd_54, Wd_977⟩, by decide +kernel⟩
theorem mi_X12_phraseOf : MV yX12_phraseOf cX12_phraseOf 4 (some FieldType.int) RX12 2 := ⟨⟨Wd_984, Wd_36, Wd_54, Wd_985⟩, by decide +kernel⟩
theorem mi_X12_findPhrases : MV yX12_findPhrases cX12_findPhrases 5 none RX12 0 := ⟨⟨Wd_980, Wd_35, Wd_54, Wd_981⟩, by decide +kernel⟩
theorem mi_X12_findFactors : MV yX12_findFactors cX12_findFactors 6 none RX12 0 := ⟨⟨Wd_968, Wd_32, Wd_54, Wd_969⟩, by decide +kernel⟩
theorem mi_X12_findPieces : MV yX12_findPieces cX12_findPieces 2 none RX12 1 := ⟨⟨Wd_964, Wd_31, Wd_54, Wd_965⟩, by decide +kernel⟩
theorem mi_X12_countPair : MV yX12_countPair cX12_countPair 6 (some FieldType.int) RX12 2 := ⟨⟨Wd_1008, Wd_40, Wd_54, Wd_1009⟩, by decide +kernel⟩
theorem mi_X12_bestPair : MV yX12_bestPair cX12_bestPair 7 (some FieldType.int) RX12 0 := ⟨⟨Wd_1004, Wd_39, Wd_54, Wd_1005⟩, by decide +kernel⟩
theorem mi_X12_isMade : MV yX12_isMade cX12_isMade 3 (some FieldType.boolean) RX12 0 := ⟨⟨Wd_1000, Wd_38, Wd_54, Wd_1001⟩, by decide +kernel⟩
theorem mi_X12_makeGrammar : MV yX12_makeGrammar cX12_makeGrammar 7 none RX12 0 := ⟨⟨Wd_996, Wd_37, Wd_54, Wd_997⟩, by decide +kernel⟩
