/-! making objects: the rows of a constructor's body -/
def NN (U : State) : Prop := ∀ q ∈ NL, va_Nw (.methodLinkNest q.1 q.2.1 q.2.2.1 q.2.2.2) U
theorem NN.warm {s U : State} (hW : s.WarmedH U.vm) (h : NN s) : NN U := fun q hq => va_Nw.warmM hW (h q hq)
theorem NN.calling {U : State} {g : JFrame} {mk : MethodId} {a : Array Value} (h : NN U) : NN (U.calling g mk a) := fun q hq => va_Nw.same (u := U) (U := U.calling g mk a) rfl rfl (h q hq)
def KP (D : va_G) (cy : ClassId) (sz : Nat) (w0 : va_W) : State → Prop := fun U => U.heap.size = sz ∧ va_P D vwCl w0 U.heap ∧ (va_K D vwCl [(cy, .int)] U ∧ NN U) ∧ va_D (fun _ => True) w0
/-- a constructor's contract: out of the object with its defaults the world W1 -/
def KC (l : Launch) (D : va_G) (cy : ClassId) (y : MethodName) (cc : ByteArray) (fr ce sl lo ci : Nat) (fs0 : List Value) (W1 : Nat → (Nat → Nat) → va_W) : Prop :=
  ∀ h sz : Nat, Met l y (.code y cc 1 none :: TT) { frames := fr, cells := ce, slots := sl, locals := lo } (va_Pc [.ref h] (KP D cy sz [(h, .inr (ci, fs0))])) (va_Qv (fun _ : Nat → Nat => True) (fun qs t => va_P D vwCl (W1 h qs) t.heap ∧ va_D (va_A [(h, .inr (ci, fs0))] sz) (W1 h qs)) (va_A [(h, .inr (ci, fs0))] sz)) ce sl (va_A [(h, .inr (ci, fs0))] sz)
def KG (D : va_G) (A : Nat → Prop) (s : State) (H : Heap) (locs : List Loc) (ws : va_W) : Prop := va_P D vwCl ws H ∧ va_D A ws ∧ va_S A s.heap H locs
theorem KC.of {l : Launch} {D : va_G} {cy : ClassId} {y : MethodName} {cc : ByteArray} {fr ce sl lo ci : Nat} {fs0 : List Value} {W1 : Nat → (Nat → Nat) → va_W} (hy : plainName y.cls = true) (hyn : y.name = "<init>")
    (body : ∀ (h : Nat) (p : Program) (e : Env) (s : State) (m : MethodId) (args : Array Value) (below : List Frame) (meth : Method) (c : Code) (ls : Array Slot) (A : Nat → Prop), CallFix p m c cc 1 s args TT y.cls → meth.name = "<init>" → meth.sig.returnType = none → meth.locks = false → lv_has ls 1 [(0, .ref h)] → va_K D vwCl [(cy, .int)] s → NN s → (∀ q, s.heap.size ≤ q → A q) → KG D A s s.heap [] [(h, .inr (ci, fs0))] →
      W p l e { frames := fr, cells := ce, slots := sl, locals := lo } s m args below meth c s.heap [] 0 0 (MQ below (va_Qv (fun _ : Nat → Nat => True) (fun qs t => va_P D vwCl (W1 h qs) t.heap ∧ va_D A (W1 h qs)) A) args s ce sl A) (F0 m 0 ls [])) : KC l D cy y cc fr ce sl lo ci fs0 W1 := by
  intro h sz
  refine Met.ofW (cc := cc) (maxL := 1) (ret := none) hy rfl ?_
  intro p e s m args below meth c s₁ B hml hv
  obtain ⟨rfl, hsz, hP, hK, hD0⟩ := hv
  have hts := atoms_spec (ws := .code y cc 1 none :: TT) B.pre
  have hown : s.vm.findClass y.cls = some m.cls := findClass_of_methodNamed B.named
  have hin : meth.name = "<init>" := (name_of_methodNamed B.named B.method).1.trans hyn
  subst hsz
  have hl := lv_entry ([.ref h]) (n := 1) (Nat.le_of_ble_eq_true rfl)
  rw [lg_entry_eq]
  exact body h p e s m _ below meth c _ _ ⟨B.exec, B.bytes, hml, hown, fun w hw => hts w (List.mem_cons_of_mem _ hw)⟩ hin B.returns B.notSynchronized hl hK.1 hK.2 (fun q hq => Or.inr hq) ⟨hP, hD0.self, va_S.rf⟩
theorem app_l {α : Type} {a b : List α} {k : Nat} {x : α} (h : a[k]? = some x) : (a ++ b)[k]? = some x := by
  rw [List.getElem?_append_left (List.getElem?_eq_some_iff.mp h).1]; exact h
theorem app_e {α : Type} (a : List α) (x : α) : (a ++ [x])[a.length]? = some x := by
  rw [List.getElem?_append_right (Nat.le_refl _), Nat.sub_self]; rfl
theorem one_l {α : Type} {x y : α} {k : Nat} (h : [x][k]? = some y) : x = y := by
  cases k with
  | zero => exact Option.some.inj h
  | succ k => cases h
section KB
variable {p : Program} {l : Launch} {e : Env} {R : Room} {s : State} {m : MethodId} {args : Array Value} {below : List Frame} {meth : Method} {c : Code} {H : Heap} {locs : List Loc} {cells slots : Nat} {Q : State → Prop}
variable {cc bytes : ByteArray} {pc nL : Nat} {ls : Array Slot} {rest st0 : List Value} {D : va_G} {A : Nat → Prop} {cy : ClassId} {own : String} {ws : va_W} {h0 : Nat}
theorem k_obj {idx : Nat} (E : CallFix p m c cc 1 s args TT own) (hl : lv_has ls 1 [(0, .ref h0)]) (h1 : Cond.methodLink own idx objectInit ∈ TT) (h2 : Cond.instanceMethod objectInit ∈ TT) (h3 : Cond.code objectInit ⟨#[0xb1]⟩ 1 none ∈ TT) (hR : 1 ≤ R.frames ∧ 12 ≤ R.locals) (d0 : decode cc 0 = .ok (.aload_n 0, 1)) (d1 : decode cc 1 = .ok (.invokespecial idx, 3))
    (kk : W p l e R s m args below meth c H locs cells slots Q (F0 m 4 ls [])) : W p l e R s m args below meth c H locs cells slots Q (F0 m 0 ls []) := by
  refine lv_aload_n E.1 E.2.1 d0 rfl (lv_at hl 0 rfl) ?_
  refine W.objInit E.1 E.2.1 E.2.2.2.1 (E.2.2.2.2 _ h1) (E.2.2.2.2 _ h2) (E.2.2.2.2 _ h3) rfl (by rw [E.2.2.1]; exact hl.1) rfl d1 hR.1 (by show 2 * 0 + 0 + 12 ≤ R.locals; omega) ?_
  exact W.eq (g2 := F0 m 4 ls []) rfl kk
/-- an array of ints, into a final field of the object that is made -/
theorem k_ar {C : String} {T : u_T} {N ci idx N' : Nat} {n : Int32} (E : CallFix p m c cc nL s args TT own) (hin : meth.name = "<init>") (hK : va_K D vwCl [(cy, .int)] s) (hA : ∀ q, s.heap.size ≤ q → A q) (hG : KG D A s H locs ws)
    (hws : ∀ x ∈ u_ws C T N, x ∈ TT) (ty : Nat → FieldType) (hty : ∀ k, k < N → parseFieldDescriptor (T k).2.2.1 = some (ty k)) (hnm : ∀ a, a < N → ∀ b, b < N → a ≠ b → (T a).2.1 ≠ (T b).2.1) (hc : vwCl[ci]? = some (C, T, N)) (q0 : Nat) {fs : List Value} (he : ws[q0]? = some (h0, .inr (ci, fs))) (k : Nat) (hk : k < N) (hlink : Cond.fieldLink own idx (T k).1 (T k).2.1 (T k).2.2.1 ∈ TT) (hfin : (T k).2.2.2 = true) (hdecl : (T k).1 = own) (hd : (T k).2.2.1 = "[I") (hl : k < fs.length)
    (harr : Cond.arrayClass .int ∈ TT) (hn : ¬ n < 0) (hN : n.toNatClampNeg = N') (hby : N' * 4 ≤ 536870912) (hR : cells + 1 ≤ R.cells ∧ slots + N' ≤ R.slots) (d0 : decode cc pc = .ok (.newarray .int, 2)) (d2 : decode cc (pc + 2) = .ok (.putfield idx, 3))
    (kk : ∀ (q : Nat) (H1 : Heap) (locs1 : List Loc), KG D A s H1 locs1 ((ws ++ [((q, .inl (cy, N', .inl (fun _ => 0))) : Nat × va_E)]).set q0 (h0, .inr (ci, fs.set k (.ref q)))) → W p l e R s m args below meth c H1 locs1 (cells + 1) (slots + N') Q (F0 m (pc + 5) ls rest)) : W p l e R s m args below meth c H locs cells slots Q (F0 m pc ls (.int n :: .ref h0 :: rest)) := by
  obtain ⟨hP, hD, hS⟩ := hG
  refine va_newa (atype := .int) (ty := .int) (N' := N') (a0 := (N', .inl (fun _ => 0))) E.1 E.2.1 (E.2.2.2.2 _ harr) rfl hK hP hD hS hA (fun _ => rfl) hn hN hby hR.1 hR.2 d0 (fun q cA H1 hK1 hP1 hD1 hS1 => ?_)
  have e1 : s.vm.findClass ("[" ++ FieldType.int.toString) = some cy := (hK1.2 0 _ rfl).2
  have e2 : s.vm.findClass ("[" ++ FieldType.int.toString) = some cA := (hK1.2 1 _ rfl).2
  have e3 : cA = cy := Option.some.inj (e2.symm.trans e1)
  subst e3
  exact va_putF (D := D) (ci := ci) (v := .ref q) (ty := .array .int) (C := C) (T := T) (N := N) E.1 E.2.1 E.2.2.2.2 hws ty hty hnm E.2.2.2.1 hK hP1 hD1 hS1 q0 (app_l he) hc k hk (E.2.2.2.2 _ hlink) (fun _ h9 => h9) hfin hin hdecl (by rw [hd]; decide +kernel) rfl rfl hl d2 (fun H2 locs2 hP2 hD2 hS2 => kk q H2 locs2 ⟨hP2, hD2, hS2⟩)
/-- an int into a field -/
theorem k_int {C : String} {T : u_T} {N ci idx : Nat} {x : Int32} (E : CallFix p m c cc nL s args TT own) (hK : va_K D vwCl [(cy, .int)] s) (hG : KG D A s H locs ws)
    (hws : ∀ x ∈ u_ws C T N, x ∈ TT) (ty : Nat → FieldType) (hty : ∀ k, k < N → parseFieldDescriptor (T k).2.2.1 = some (ty k)) (hnm : ∀ a, a < N → ∀ b, b < N → a ≠ b → (T a).2.1 ≠ (T b).2.1) (hc : vwCl[ci]? = some (C, T, N)) (q0 : Nat) {fs : List Value} (he : ws[q0]? = some (h0, .inr (ci, fs))) (k : Nat) (hk : k < N) (hlink : Cond.fieldLink own idx (T k).1 (T k).2.1 (T k).2.2.1 ∈ TT) (hfin : (T k).2.2.2 = false) (hd : (T k).2.2.1 = "I") (hl : k < fs.length) (d0 : decode cc pc = .ok (.putfield idx, 3))
    (kk : ∀ (H1 : Heap) (locs1 : List Loc), KG D A s H1 locs1 (ws.set q0 (h0, .inr (ci, fs.set k (.int x)))) → W p l e R s m args below meth c H1 locs1 cells slots Q (F0 m (pc + 3) ls rest)) : W p l e R s m args below meth c H locs cells slots Q (F0 m pc ls (.int x :: .ref h0 :: rest)) := by
  obtain ⟨hP, hD, hS⟩ := hG
  exact va_put (D := D) (ci := ci) (v := .int x) (ty := .int) (C := C) (T := T) (N := N) E.1 E.2.1 E.2.2.2.2 hws ty hty hnm E.2.2.2.1 hK hP hD hS q0 he hc k hk (E.2.2.2.2 _ hlink) (fun _ h9 => h9) hfin (by rw [hd]; decide +kernel) rfl rfl hl d0 (fun H2 locs2 hP2 hD2 hS2 => kk H2 locs2 ⟨hP2, hD2, hS2⟩)
/-- behind a constructor's call -/
theorem k_af {x : Nat × va_E} {mc ms : Nat} {av : Array Value} {W1 : (Nat → Nat) → va_W} (hr : va_Run p l e R s m args below meth c H locs cells slots mc ms (F0 m pc ls st0) rest (va_Qv (fun _ : Nat → Nat => True) (fun qs t => va_P D vwCl (W1 qs) t.heap ∧ va_D (va_A [x] H.size) (W1 qs)) (va_A [x] H.size) av) (va_A [x] H.size))
    (hA : ∀ q, s.heap.size ≤ q → A q) (hG : KG D A s H locs (ws ++ [x]))
    (kk : ∀ (qs : Nat → Nat) (H1 : Heap) (locs1 : List Loc), KG D A s H1 locs1 (ws ++ W1 qs) → W p l e R s m args below meth c H1 locs1 (cells + mc) (slots + ms) Q (F0 m (pc + 3) ls rest)) : W p l e R s m args below meth c H locs cells slots Q (F0 m pc ls st0) := by
  obtain ⟨hP, hD, hS⟩ := hG
  have hFc : ∀ q, va_A [x] H.size q → A q := fun q hq => by
    rcases hq with ⟨k, e, hk⟩ | hq
    · have := one_l hk
      have h1 := hD.2 ws.length x (app_e ws x)
      rw [this] at h1
      exact h1
    · exact hA q (Nat.le_trans hS.1 hq)
  refine va_callv hr hS (fun q _ h => hFc q h) hFc (fun qs t H1 locs1 ht hvm hw hB hz1 hk1 hS1 => ?_)
  obtain ⟨hP1, hD1⟩ := hB
  rw [ht] at hP1
  have apart : ∀ (k : Nat) (q : Nat × va_E), ws[k]? = some q → q.1 < H.size ∧ ¬ va_A [x] H.size q.1 := fun k q hk => by
    have hlt := (hP k q (app_l hk)).lt
    refine ⟨hlt, fun h => ?_⟩
    rcases h with ⟨k2, e, h2⟩ | h2
    · have e2 := one_l h2
      have := hD.1 k ws.length q x (app_l hk) (app_e ws x) (by rw [e2])
      have := (List.getElem?_eq_some_iff.mp hk).1
      omega
    · omega
  refine kk qs H1 locs1 ⟨va_P.app (fun k q hk => (hP k q (app_l hk)).kept (hk1 q.1 (apart k q hk).1 (apart k q hk).2)) hP1, va_D.app ⟨fun i j a b hi hj => hD.1 i j a b (app_l hi) (app_l hj), fun k q hk => hD.2 k q (app_l hk)⟩ (hD1.weaken (fun k q _ h => hFc q.1 h)) (fun i j a b hi hj hab => ?_), hS1⟩
  exact (apart i a hi).2 (by rw [hab]; exact hD1.2 j b hj)
theorem KP_blind {h sz : Nat} {w0 : va_W} : FrameBlind (va_Pc [.ref h] (KP D cy sz w0)) := fun a U g mk q => by
  obtain ⟨q0, q1, qP, qK, qD⟩ := q
  exact ⟨q0, q1, qP, ⟨va_K.moved (u := U) (U := U.calling g mk a) (Vm.Alike.refl U.vm) qK.1, qK.2.calling⟩, qD⟩
/-- what a constructor is, by the tables -/
def MK (y : MethodName) (bytes : ByteArray) (C : String) : Prop := (.instanceMethod y ∈ TT ∧ .initialized C ∈ TT ∧ .code y bytes 1 none ∈ TT) ∧ y.cls = C ∧ y.name = "<init>" ∧ y.cls ≠ "java/lang/invoke/MethodHandle" ∧ y.cls ≠ "java/lang/invoke/VarHandle" ∧ (parseMethodDescriptor y.desc).map (fun d => d.parameters.length) = some 0
/-- a nest mate's constructor is called on the object x = h -/
theorem k_runN {C own host : String} {y : MethodName} {fr ce sl lo ci idx h : Nat} {fs0 : List Value} {W1 : Nat → (Nat → Nat) → va_W} (E : CallFix p m c cc nL s args TT own) (hM : KC l D cy y bytes fr ce sl lo ci fs0 W1) (hI : MK y bytes C) (hN : NN s) (hnest : (own, idx, y, host) ∈ NL) (hK : va_K D vwCl [(cy, .int)] s) (hG : KG D A s H locs (ws ++ [(h, .inr (ci, fs0))])) (hsz : ls.size = nL) (hst0 : st0 = .ref h :: rest) (hW : (rest.map fun v => v.category).sum ≤ 8)
    (hR : fr + 1 ≤ R.frames ∧ 8 + (1 + 11) + lo ≤ R.locals ∧ cells + ce ≤ R.cells ∧ slots + sl ≤ R.slots) (hdg : decode cc pc = .ok (.invokespecial idx, 3)) :
    va_Run p l e R s m args below meth c H locs cells slots ce sl (F0 m pc ls st0) rest (va_Qv (fun _ : Nat → Nat => True) (fun qs t => va_P D vwCl (W1 h qs) t.heap ∧ va_D (va_A [(h, .inr (ci, fs0))] H.size) (W1 h qs)) (va_A [(h, .inr (ci, fs0))] H.size) [Value.ref h].toArray) (va_A [(h, .inr (ci, fs0))] H.size) := by
  have hP1 : va_P D vwCl [(h, .inr (ci, fs0))] H := fun k q hk => hG.1 ws.length q (by rw [← one_l hk]; exact app_e ws _)
  have hD1 : va_D (fun _ => True) [(h, (.inr (ci, fs0) : va_E))] := ⟨fun i j a b hi hj _ => by
    have h1 := (List.getElem?_eq_some_iff.mp hi).1
    have h2 := (List.getElem?_eq_some_iff.mp hj).1
    simp only [List.length_cons, List.length_nil] at h1 h2
    omega, fun _ _ _ => trivial⟩
  exact va_runIN (As := []) (rest := rest) (b := h) (rm := { frames := fr, cells := ce, slots := sl, locals := lo }) E (hM h H.size) ⟨va_cnB 0 E.2.2.2.2 (TT_call hI.1.2.2) rfl rfl rfl (hN _ hnest) (E.2.2.2.2 _ (by rw [hI.2.1]; exact hI.1.2.1)) ⟨hI.2.2.2.1, hI.2.2.2.2.1, hI.2.2.2.2.2⟩ ⟨hR.1, hR.2.1⟩, hI.2.2.1, E.2.2.2.2 _ hI.1.1⟩ ⟨KP_blind, fun U hU hW => ⟨rfl, by rw [hU], by rw [hU]; exact hP1, ⟨va_K.moved hW.alike hK, hN.warm hW⟩, hD1⟩⟩ rfl rfl hsz hst0 (lv_room hW) hdg ⟨hR.2.2.1, hR.2.2.2⟩
/-- .. any other one -/
theorem k_runP {C own : String} {y : MethodName} {fr ce sl lo ci idx h : Nat} {fs0 : List Value} {W1 : Nat → (Nat → Nat) → va_W} (E : CallFix p m c cc nL s args TT own) (hM : KC l D cy y bytes fr ce sl lo ci fs0 W1) (hI : MK y bytes C) (hN : NN s) (h1 : Cond.methodLink own idx y ∈ TT) (hK : va_K D vwCl [(cy, .int)] s) (hG : KG D A s H locs (ws ++ [(h, .inr (ci, fs0))])) (hsz : ls.size = nL) (hst0 : st0 = .ref h :: rest) (hW : (rest.map fun v => v.category).sum ≤ 8)
    (hR : fr + 1 ≤ R.frames ∧ 8 + (1 + 11) + lo ≤ R.locals ∧ cells + ce ≤ R.cells ∧ slots + sl ≤ R.slots) (hdg : decode cc pc = .ok (.invokespecial idx, 3)) :
    va_Run p l e R s m args below meth c H locs cells slots ce sl (F0 m pc ls st0) rest (va_Qv (fun _ : Nat → Nat => True) (fun qs t => va_P D vwCl (W1 h qs) t.heap ∧ va_D (va_A [(h, .inr (ci, fs0))] H.size) (W1 h qs)) (va_A [(h, .inr (ci, fs0))] H.size) [Value.ref h].toArray) (va_A [(h, .inr (ci, fs0))] H.size) := by
  have hP1 : va_P D vwCl [(h, .inr (ci, fs0))] H := fun k q hk => hG.1 ws.length q (by rw [← one_l hk]; exact app_e ws _)
  have hD1 : va_D (fun _ => True) [(h, (.inr (ci, fs0) : va_E))] := ⟨fun i j a b hi hj _ => by
    have h1 := (List.getElem?_eq_some_iff.mp hi).1
    have h2 := (List.getElem?_eq_some_iff.mp hj).1
    simp only [List.length_cons, List.length_nil] at h1 h2
    omega, fun _ _ _ => trivial⟩
  exact va_runI (As := []) (rest := rest) (b := h) (rm := { frames := fr, cells := ce, slots := sl, locals := lo }) E (hM h H.size) (cwI 0 E.2.2.2.2 (TT_call hI.1.2.2) rfl rfl rfl (E.2.2.2.2 _ (by rw [hI.2.1]; exact hI.1.2.1)) (E.2.2.2.2 _ h1) (E.2.2.2.2 _ hI.1.1) hI.2.2.1 ⟨hI.2.2.2.1, hI.2.2.2.2.1, hI.2.2.2.2.2⟩ ⟨hR.1, hR.2.1⟩) ⟨KP_blind, fun U hU hW => ⟨rfl, by rw [hU], by rw [hU]; exact hP1, ⟨va_K.moved hW.alike hK, hN.warm hW⟩, hD1⟩⟩ rfl rfl hsz hst0 (lv_room hW) hdg ⟨hR.2.2.1, hR.2.2.2⟩
/-- new; dup -/
theorem k_new {C : String} {T : u_T} {N ci idx : Nat} {fs0 : List Value} (E : CallFix p m c cc nL s args TT own) (hK : va_K D vwCl [(cy, .int)] s) (hA : ∀ q, s.heap.size ≤ q → A q) (hG : KG D A s H locs ws)
    (hws : ∀ x ∈ u_ws C T N, x ∈ TT) (ty : Nat → FieldType) (hty : ∀ k, k < N → parseFieldDescriptor (T k).2.2.1 = some (ty k)) (hc : vwCl[ci]? = some (C, T, N)) (hfs : ∀ j, j < N → defaultValue (ty j) = vp_V fs0 j) (w1 : Cond.classLink own idx C ∈ TT) (w2 : Cond.instantiable C N ∈ TT) (w3 : Cond.initialized C ∈ TT) (hR : cells + 1 ≤ R.cells ∧ slots + N ≤ R.slots)
    (d0 : decode cc pc = .ok (.new idx, 3)) (d3 : decode cc (pc + 3) = .ok (.dup, 1))
    (kk : ∀ (q : Nat) (H1 : Heap), KG D A s H1 locs (ws ++ [(q, .inr (ci, fs0))]) → W p l e R s m args below meth c H1 locs (cells + 1) (slots + N) Q (F0 m (pc + 4) ls (.ref q :: .ref q :: rest))) : W p l e R s m args below meth c H locs cells slots Q (F0 m pc ls rest) := by
  obtain ⟨hP, hD, hS⟩ := hG
  refine va_new (ci := ci) (fs := fs0) (C := C) (T := T) (N := N) E.1 E.2.1 E.2.2.2.2 hws ty hty E.2.2.2.1 (E.2.2.2.2 _ w1) (E.2.2.2.2 _ w2) (E.2.2.2.2 _ w3) hK hP hD hS hA hc hfs hR.1 hR.2 d0 (fun q H1 hP1 hD1 hS1 => ?_)
  exact lv_dup E.1 E.2.1 d3 rfl (kk q H1 ⟨hP1, hD1, hS1⟩)
/-- new; dup; a nest mate's <init>; into a final field of the object that is made -/
theorem k_sub {C C' host : String} {T T' : u_T} {N N' ci ci' i1 i2 i3 fr ce sl lo : Nat} {y : MethodName} {fs0 : List Value} {W1 : Nat → (Nat → Nat) → va_W} (E : CallFix p m c cc nL s args TT own) (hin : meth.name = "<init>") (hK : va_K D vwCl [(cy, .int)] s) (hN : NN s) (hA : ∀ q, s.heap.size ≤ q → A q) (hG : KG D A s H locs ws)
    (hws : ∀ x ∈ u_ws C T N, x ∈ TT) (ty : Nat → FieldType) (hty : ∀ k, k < N → parseFieldDescriptor (T k).2.2.1 = some (ty k)) (hnm : ∀ a, a < N → ∀ b, b < N → a ≠ b → (T a).2.1 ≠ (T b).2.1) (hc : vwCl[ci]? = some (C, T, N)) (q0 : Nat) {fs : List Value} (he : ws[q0]? = some (h0, .inr (ci, fs))) (k : Nat) (hk : k < N) (hlink : Cond.fieldLink own i3 (T k).1 (T k).2.1 (T k).2.2.1 ∈ TT) (hfin : (T k).2.2.2 = true) (hdecl : (T k).1 = own) (tyv : FieldType) (hd : parseFieldDescriptor (T k).2.2.1 = some tyv) (hnw : ∀ q, narrow tyv (.ref q) = .ref q) (hft : ∀ q, fits tyv (.ref q) = true) (hl : k < fs.length)
    (hws' : ∀ x ∈ u_ws C' T' N', x ∈ TT) (ty' : Nat → FieldType) (hty' : ∀ k, k < N' → parseFieldDescriptor (T' k).2.2.1 = some (ty' k)) (hc' : vwCl[ci']? = some (C', T', N')) (hfs : ∀ j, j < N' → defaultValue (ty' j) = vp_V fs0 j) (w1 : Cond.classLink own i1 C' ∈ TT) (w2 : Cond.instantiable C' N' ∈ TT)
    (hM : KC l D cy y bytes fr ce sl lo ci' fs0 W1) (hI : MK y bytes C') (hnest : (own, i2, y, host) ∈ NL) (hsz : ls.size = nL) (hR : fr + 1 ≤ R.frames ∧ 8 + (1 + 11) + lo ≤ R.locals ∧ cells + 1 + ce ≤ R.cells ∧ slots + N' + sl ≤ R.slots)
    (d0 : decode cc pc = .ok (.new i1, 3)) (d3 : decode cc (pc + 3) = .ok (.dup, 1)) (d4 : decode cc (pc + 4) = .ok (.invokespecial i2, 3)) (d7 : decode cc (pc + 7) = .ok (.putfield i3, 3))
    (kk : ∀ (q : Nat) (qs : Nat → Nat) (H1 : Heap) (locs1 : List Loc), KG D A s H1 locs1 ((ws ++ W1 q qs).set q0 (h0, .inr (ci, fs.set k (.ref q)))) → W p l e R s m args below meth c H1 locs1 (cells + 1 + ce) (slots + N' + sl) Q (F0 m (pc + 10) ls [])) : W p l e R s m args below meth c H locs cells slots Q (F0 m pc ls [.ref h0]) := by
  refine k_new (ci := ci') (fs0 := fs0) E hK hA hG hws' ty' hty' hc' hfs w1 w2 hI.1.2.1 ⟨by omega, by omega⟩ d0 d3 (fun q H1 hG1 => ?_)
  refine k_af (x := (q, .inr (ci', fs0))) (W1 := W1 q) (k_runN (rest := [.ref q, .ref h0]) E hM hI hN hnest hK hG1 hsz rfl (Nat.le_of_ble_eq_true rfl) hR d4) hA hG1 (fun qs H2 locs2 hG2 => ?_)
  obtain ⟨hP, hD, hS⟩ := hG2
  exact va_putF (D := D) (ci := ci) (v := .ref q) (ty := tyv) (C := C) (T := T) (N := N) E.1 E.2.1 E.2.2.2.2 hws ty hty hnm E.2.2.2.1 hK hP hD hS q0 (app_l he) hc k hk (E.2.2.2.2 _ hlink) (fun _ h9 => h9) hfin hin hdecl hd (hnw q) (hft q) hl d7 (fun H3 locs3 hP3 hD3 hS3 => kk q qs H3 locs3 ⟨hP3, hD3, hS3⟩)
/-- a constructor's end -/
theorem k_ret {ce sl h : Nat} {W1 : Nat → (Nat → Nat) → va_W} (E : CallFix p m c cc nL s args TT own) (hr : meth.sig.returnType = none) (hlk : meth.locks = false) (qs : Nat → Nat) (hG : KG D A s H locs (W1 h qs)) (hcs : cells ≤ ce ∧ slots ≤ sl) (hdg : decode cc pc = .ok (.return_, 1)) :
    W p l e R s m args below meth c H locs cells slots (MQ below (va_Qv (fun _ : Nat → Nat => True) (fun qs t => va_P D vwCl (W1 h qs) t.heap ∧ va_D A (W1 h qs)) A) args s ce sl A) (F0 m pc ls []) := by
  refine W.widen (k := ce) (n := sl) hcs.1 hcs.2 ?_
  exact W.vret E.1 E.2.1 hr (fun t ht _ => ⟨⟨qs, rfl, trivial, by rw [ht]; exact hG.1, hG.2.1⟩, hG.2.2.F ht⟩) hG.2.2.2.2 hdg hlk
end KB
