/-! the law: its world, its script, its calls -/
def LWs (ad bd : Nat → Nat) (cy cl : ClassId) (o : Nat) (σ τ : SS) (f : Nat → Int64) : va_W := cw ad cy σ ++ (mw bd cy τ ++ ow cl o f)
def AL (s : State) : Nat → Prop := fun q => s.heap.size ≤ q
theorem KG.toM {D : va_G} {A : Nat → Prop} {s : State} {H : Heap} {locs : List Loc} {ad bd : Nat → Nat} {cy cl : ClassId} {o : Nat} {σ τ : SS} {f : Nat → Int64} (h : KG D A s H locs (LWs ad bd cy cl o σ τ f)) : KG D A s H locs (mw bd cy τ ++ (ow cl o f ++ cw ad cy σ)) :=
  h.perm (by rw [← List.append_assoc]; exact List.perm_append_comm)
theorem KG.toC {D : va_G} {A : Nat → Prop} {s : State} {H : Heap} {locs : List Loc} {ad bd : Nat → Nat} {cy cl : ClassId} {o : Nat} {σ τ : SS} {f : Nat → Int64} (h : KG D A s H locs (mw bd cy τ ++ (ow cl o f ++ cw ad cy σ))) : KG D A s H locs (LWs ad bd cy cl o σ τ f) :=
  h.perm (by rw [← List.append_assoc]; exact List.perm_append_comm)
theorem KG.toH {D : va_G} {A : Nat → Prop} {s : State} {H : Heap} {locs : List Loc} {ad bd : Nat → Nat} {cy cl : ClassId} {o : Nat} {σ τ : SS} {f : Nat → Int64} (h : KG D A s H locs (LWs ad bd cy cl o σ τ f)) : KG D A s H locs ((cw ad cy σ ++ ow cl o f) ++ mw bd cy τ) :=
  h.perm (by rw [List.append_assoc]; exact List.Perm.append_left _ List.perm_append_comm)
theorem KG.ofH {D : va_G} {A : Nat → Prop} {s : State} {H : Heap} {locs : List Loc} {ad bd : Nat → Nat} {cy cl : ClassId} {o : Nat} {σ τ : SS} {f : Nat → Int64} (h : KG D A s H locs ((cw ad cy σ ++ ow cl o f) ++ mw bd cy τ)) : KG D A s H locs (LWs ad bd cy cl o σ τ f) :=
  h.perm (by rw [List.append_assoc]; exact List.Perm.append_left _ List.perm_append_comm)
/-- what stays through the law -/
def LE (p : Program) (l : Launch) (m : MethodId) (c : Code) (s : State) (args : Array Value) (D : va_G) (cy cl : ClassId) (b L : Nat) (xs : Nat → Int32) (sa : Nat → Nat) : Prop :=
  CallFix p m c code 8 s args TT RL ∧ KK D cy s ∧ va_K D vwCl [(cl, .long)] s ∧ va_X b L xs s s.heap ∧ b < s.heap.size ∧ XS s.heap.size sa s s.heap ∧ l.stackTraces = false ∧ L ≤ 2048
theorem nI_k {i k : Nat} {n : Int} (h : Int32.ofInt n = nI k) : nI i + Int32.ofInt n = nI (i + k) := by rw [h, nI_add]
section LB
variable {p : Program} {l : Launch} {e : Env} {R : Room} {s : State} {m : MethodId} {args : Array Value} {below : List Frame} {meth : Method} {c : Code} {H : Heap} {locs : List Loc} {cells slots : Nat} {Q : State → Prop}
variable {pc : Nat} {ls : Array Slot} {rest st0 : List Value} {D : va_G} {ad bd : Nat → Nat} {cy cl : ClassId} {o b L : Nat} {xs : Nat → Int32} {sa : Nat → Nat} {σ τ σ' : SS} {f f' : Nat → Int64}
/-- the script's int at i + k -/
theorem l_arg {i : Nat} (k : Nat) {n : Int} {lv : List (Nat × Value)} (hE : LE p l m c s args D cy cl b L xs sa) (hS : va_S (AL s) s.heap H locs) (hl : lv_has ls 8 lv) (a0 a4 : Nat) (h0 : lv[a0]? = some (0, .ref b)) (h4 : lv[a4]? = some (4, .int (nI i))) (hn : Int32.ofInt n = nI k) (hi : i + k < L) (d0 : decode code pc = .ok (.aload_n 0, 1)) (d1 : decode code (pc + 1) = .ok (.iload 4, 2)) (d2 : decode code (pc + 3) = .ok (.iconst n, 1)) (d3 : decode code (pc + 4) = .ok (.iadd, 1)) (d4 : decode code (pc + 5) = .ok (.iaload, 1))
    (kk : W p l e R s m args below meth c H locs cells slots Q (F0 m (pc + 6) ls (.int (xs (i + k)) :: rest))) : W p l e R s m args below meth c H locs cells slots Q (F0 m pc ls rest) := by
  obtain ⟨E, -, -, hX, hbl, -, -, hL⟩ := hE
  refine lv_aload_n E.1 E.2.1 d0 rfl (lv_at hl a0 h0) ?_
  refine lv_iload E.1 E.2.1 d1 (lv_at hl a4 h4) ?_
  refine lv_iconst (v := nI k) E.1 E.2.1 d2 hn ?_
  refine lv_iadd E.1 E.2.1 d3 ?_
  rw [nI_add]
  refine va_sld E.1 E.2.1 hX hbl (Nat.not_le.mpr hbl) hS (vp_in_nI hi (by omega)) d4 ?_
  rw [nI_clamp (by omega)]
  exact kk
/-- a helper's call -/
theorem j_H {y : MethodName} {bytes : ByteArray} {hh : List (Nat × Nat × Nat × Nat)} {fr lo idx : Nat} {x k : Int32} (hE : LE p l m c s args D cy cl b L xs sa) (hG : KG D (AL s) s H locs (LWs ad bd cy cl o σ τ f)) (hM : HC l D ad cy cl o s.heap.size sa y bytes hh fr lo x σ f k σ' f') (h1 : Cond.methodLink RL idx y ∈ TT) (h2 : Cond.static y ∈ TT) (h3 : Cond.initialized y.cls ∈ TT) (h4 : Cond.codeWith y bytes 4 (some .int) hh ∈ TT) (hd : y.cls ≠ "java/lang/invoke/MethodHandle" ∧ y.cls ≠ "java/lang/invoke/VarHandle" ∧ (parseMethodDescriptor y.desc).map (fun d => d.parameters.length) = some 3)
    (hR : fr + 1 ≤ R.frames ∧ 8 + (4 + 11) + lo ≤ R.locals ∧ cells + 1 ≤ R.cells ∧ slots + 6 ≤ R.slots) (hsz : ls.size = 8) (hst0 : st0 = .ref o :: .int x :: .ref (ad 0) :: rest) (hW : (rest.map fun v => v.category).sum ≤ 8) (hdg : decode code pc = .ok (.invokestatic idx, 3))
    (kk : ∀ (H1 : Heap) (locs1 : List Loc), KG D (AL s) s H1 locs1 (LWs ad bd cy cl o σ' τ f') → W p l e R s m args below meth c H1 locs1 (cells + 1) (slots + 6) Q (F0 m (pc + 3) ls (.int k :: rest))) : W p l e R s m args below meth c H locs cells slots Q (F0 m pc ls st0) := by
  obtain ⟨E, hK, hKl, -, -, hXS, -, -⟩ := hE
  have hG1 := hG.toH
  have hS := hG1.2.2
  obtain ⟨hP, hD⟩ := hG1.left
  have hT : GoodIn TT (va_wsS RL idx y (.codeWith y bytes 4 (some .int) hh :: TT)) := fun z hz => by
    unfold va_wsS at hz
    rcases List.mem_append.mp hz with h | h
    · simp only [List.mem_cons, List.not_mem_nil, or_false] at h
      rcases h with rfl | rfl | rfl
      · exact ⟨h1, TT_good h1⟩
      · exact ⟨h2, TT_good h2⟩
      · exact ⟨h3, TT_good h3⟩
    · exact TT_call h4 z h
  have hF : ∀ q, cA (cas ad ++ [o]) H.size q → AL s q := hG1.free (as := cas ad ++ [o]) rfl (fun q hq => hq)
  have hXH : XS s.heap.size sa s H := hXS.kept (fun a h2 h3 => hS.2.1 a h2 h3)
  refine va_calli (vx_runSW (As := [.ref (ad 0), .int x, .ref o]) (rest := rest) (rm := { frames := fr, cells := 1, slots := 6, locals := lo }) E (hM H.size) (vx_cwSW 3 E.2.2.2.2 hT rfl rfl rfl hd ⟨hR.1, hR.2.1⟩)
    ⟨fun a U g mk q => by
      obtain ⟨q0, q1, qP, qK, qD, q2, q3⟩ := q
      exact ⟨q0, q1, qP, ⟨qK.1.calling, va_K.moved (u := U) (U := U.calling g mk a) (Vm.Alike.refl U.vm) qK.2⟩, qD, q2, q3.calling⟩,
     fun U hU hW => ⟨rfl, by rw [hU], by rw [hU]; exact hP, ⟨hK.moved hW, va_K.moved hW.alike hKl⟩, hD, hS.1, by rw [hU]; exact hXH.warm hW⟩⟩ rfl rfl hsz hst0 (lv_room hW) hdg ⟨hR.2.2.1, hR.2.2.2⟩) hS (fun q _ h => hF q h) hF (fun r u t H1 locs1 ht hvm hp hB hz hk hS1 => ?_)
  subst hp
  have hB' : va_P D vwCl (cw ad cy σ' ++ ow cl o f') H1 := by rw [← ht]; exact hB
  exact kk H1 locs1 (j_join (as := cas ad ++ [o]) rfl rfl hG1 hB' hk hS1).ofH
end LB
/-- behind a case: the next call -/
def LK (p : Program) (l : Launch) (e : Env) (s : State) (m : MethodId) (args : Array Value) (below : List Frame) (meth : Method) (c : Code) (D : va_G) (ad bd : Nat → Nat) (cy cl : ClassId) (o b i j C S : Nat) (Q : State → Prop) : Prop :=
  ∀ (σ τ : SS) (f : Nat → Int64) (H : Heap) (locs : List Loc) (ls : Array Slot), Rel σ τ (j + 1) → KG D (AL s) s H locs (LWs ad bd cy cl o σ τ f) → lv_has ls 8 [(0, .ref b), (1, .ref (ad 0)), (2, .ref (bd 0)), (3, .ref o), (4, .int (nI i))] → W p l e room_1 s m args below meth c H locs (C + 1) (S + 6) Q (F0 m 757 ls [])
theorem lg_same (x : Int64) : lg_cmp x x = 0 := (lc_eq x x).mpr rfl
