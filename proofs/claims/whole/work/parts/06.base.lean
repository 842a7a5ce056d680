/-! The base layer: a world that is a function of a small state, contracts by a functional translation. -/
/-- a state: the int fields by number, the int arrays by number -/
abbrev SS : Type := (Nat → Int32) × (Nat → Nat → Int32)
/-- all good words of the tables: every method of ours has them -/
def TT : List Cond := lw_tbl.filter goodWord
theorem inTT {w : Cond} (i : Nat) (h : lw_tbl[i]? = some w) (g : goodWord w = true) : w ∈ TT := List.mem_filter.mpr ⟨List.mem_of_getElem? h, g⟩
theorem TT_good {w : Cond} (h : w ∈ TT) : (w.onTables && w.keeps) = true ∨ ∃ ty, w = .arrayClass ty := good_of_word (List.mem_filter.mp h).2
theorem TT_in : ∀ w ∈ TT, w ∈ lw_tbl := fun _ h => (List.mem_filter.mp h).1
theorem TT_call {w : Cond} (h : w ∈ TT) : GoodIn TT (w :: TT) := fun z hz => (List.mem_cons.mp hz).elim (fun q => q ▸ ⟨h, TT_good h⟩) (fun q => ⟨q, TT_good q⟩)
def ycut : MethodName := ⟨"EntropyBounds$Pieces", "cut", "(LEntropyBounds$Text;)V"⟩
def cA (as : List Nat) (sz : Nat) : Nat → Prop := fun q => q ∈ as ∨ sz ≤ q
def KK (D : va_G) (cy : ClassId) (U : State) : Prop := va_K D vwCl [(cy, .int)] U ∧ va_Nw (.declares ycut) U
theorem KK.moved {D : va_G} {cy : ClassId} {s U : State} (hW : s.WarmedH U.vm) (h : KK D cy s) : KK D cy U := ⟨va_K.moved hW.alike h.1, va_Nw.warmD hW h.2⟩
theorem KK.calling {D : va_G} {cy : ClassId} {U : State} {g : JFrame} {mk : MethodId} {a : Array Value} (h : KK D cy U) : KK D cy (U.calling g mk a) := ⟨va_K.moved (u := U) (U := U.calling g mk a) (Vm.Alike.refl U.vm) h.1, va_Nw.same (u := U) (U := U.calling g mk a) rfl rfl h.2⟩
/-- the world's cells stand in H, are apart, and nothing else has changed since H0 -/
def GW (D : va_G) (w : SS → va_W) (as : List Nat) (cy : ClassId) (s : State) (H0 H : Heap) (locs : List Loc) (σ : SS) : Prop :=
  (∀ σ, (w σ).map Prod.fst = as) ∧ KK D cy s ∧ va_P D vwCl (w σ) H ∧ va_D (cA as H0.size) (w σ) ∧ va_S (cA as H0.size) H0 H locs
def Qw (D : va_G) (w : SS → va_W) (v : Option Value) (σ' : SS) (A : Nat → Prop) : Array Value → State → Outcome → State → Prop := fun _ st oc t =>
  (oc = .returned v ∧ va_P D vwCl (w σ') t.heap) ∧ va_F A st t
def Pw (D : va_G) (w : SS → va_W) (cy : ClassId) (sz : Nat) (σ : SS) : State → Prop := fun U => U.heap.size = sz ∧ va_P D vwCl (w σ) U.heap ∧ KK D cy U ∧ va_D (fun _ => True) (w σ)
/-- method y, called with av in a world of state σ, returns v and leaves state σ' -/
def Ctr (l : Launch) (D : va_G) (w : SS → va_W) (as : List Nat) (cy : ClassId) (y : MethodName) (cc : ByteArray) (maxL : Nat) (rt : Option FieldType) (fr lo : Nat) (av : List Value) (σ : SS) (v : Option Value) (σ' : SS) : Prop :=
  ∀ sz : Nat, Met l y (.code y cc maxL rt :: TT) { frames := fr, cells := 0, slots := 0, locals := lo } (va_Pc av (Pw D w cy sz σ)) (Qw D w v σ' (cA as sz)) 0 0 (cA as sz)
theorem D_as {w : SS → va_W} {as : List Nat} (hw : ∀ σ, (w σ).map Prod.fst = as) {A : Nat → Prop} {σ σ' : SS} (h : va_D A (w σ)) : va_D A (w σ') := by
  have key : ∀ (i : Nat) (p : Nat × va_E), (w σ')[i]? = some p → ∃ p', (w σ)[i]? = some p' ∧ p'.1 = p.1 := by
    intro i p hp
    have h1 : ((w σ').map Prod.fst)[i]? = some p.1 := by rw [List.getElem?_map, hp]; rfl
    rw [hw σ', ← hw σ, List.getElem?_map] at h1
    cases hq : (w σ)[i]? with
    | none => rw [hq] at h1; cases h1
    | some q => rw [hq] at h1; exact ⟨q, rfl, Option.some.inj h1⟩
  refine ⟨fun i j p q hp hq e => ?_, fun k q hq => ?_⟩
  · obtain ⟨p', hp', e1⟩ := key i p hp
    obtain ⟨q', hq', e2⟩ := key j q hq
    exact h.1 i j p' q' hp' hq' (by rw [e1, e2]; exact e)
  · obtain ⟨q', hq', e2⟩ := key k q hq
    rw [← e2]; exact h.2 k q' hq'
theorem A_as {w : SS → va_W} {as : List Nat} (hw : ∀ σ, (w σ).map Prod.fst = as) {A : Nat → Prop} {σ : SS} {sz : Nat} (h : va_D A (w σ)) : va_D (cA as sz) (w σ) :=
  ⟨h.1, fun k q hq => Or.inl (by rw [← hw σ]; exact List.mem_map_of_mem (List.mem_of_getElem? hq))⟩
theorem Ctr.of {l : Launch} {D : va_G} {w : SS → va_W} {as : List Nat} {cy : ClassId} {y : MethodName} {cc : ByteArray} {maxL : Nat} {rt : Option FieldType} {fr lo : Nat} {av : List Value} {σ : SS} {v : Option Value} {σ' : SS}
    (hw : ∀ σ, (w σ).map Prod.fst = as) (hy : plainName y.cls = true) (hn : (lg_sl av).length ≤ maxL)
    (body : ∀ (p : Program) (e : Env) (s : State) (m : MethodId) (args : Array Value) (below : List Frame) (meth : Method) (c : Code) (ls : Array Slot), CallFix p m c cc maxL s args TT y.cls → meth.sig.returnType = rt → meth.locks = false → lv_has ls maxL (lv_args 0 av) → GW D w as cy s s.heap s.heap [] σ →
      W p l e { frames := fr, cells := 0, slots := 0, locals := lo } s m args below meth c s.heap [] 0 0 (MQ below (Qw D w v σ' (cA as s.heap.size)) args s 0 0 (cA as s.heap.size)) (F0 m 0 ls [])) :
    Ctr l D w as cy y cc maxL rt fr lo av σ v σ' := by
  intro sz
  refine Met.ofW (cc := cc) (maxL := maxL) (ret := rt) hy rfl ?_
  intro p e s m args below meth c s₁ B hml hv
  obtain ⟨rfl, hsz, hP, hK, hD0⟩ := hv
  have hts := atoms_spec (ws := .code y cc maxL rt :: TT) B.pre
  have hown : s.vm.findClass y.cls = some m.cls := findClass_of_methodNamed B.named
  subst hsz
  have hl := lv_entry av (n := maxL) hn
  rw [lg_entry_eq]
  exact body p e s m _ below meth c _ ⟨B.exec, B.bytes, hml, hown, fun w h => hts w (List.mem_cons_of_mem _ h)⟩ B.returns B.notSynchronized hl ⟨hw, hK, hP, A_as hw hD0, va_S.rf⟩
section BASE
variable {p : Program} {l : Launch} {e : Env} {R : Room} {s : State} {m : MethodId} {args : Array Value} {below : List Frame} {meth : Method} {c : Code} {H : Heap} {locs : List Loc} {cells slots : Nat} {Q : State → Prop}
variable {cc bytes : ByteArray} {pc nL maxL n idx fr lo : Nat} {ls : Array Slot} {rest st0 st1 As : List Value} {D : va_G} {w : SS → va_W} {as : List Nat} {cy : ClassId} {H0 : Heap} {σ σ' : SS} {v : Option Value} {rt : Option FieldType} {own C : String} {y : MethodName} {a b : Nat}
theorem af {av : Array Value} (hr : va_Run p l e R s m args below meth c H locs cells slots 0 0 (F0 m pc ls st0) rest (Qw D w v σ' (cA as H.size) av) (cA as H.size)) (hG : GW D w as cy s H0 H locs σ) (hst : v.toList ++ rest = st1)
    (kk : ∀ (H1 : Heap) (locs1 : List Loc), GW D w as cy s H0 H1 locs1 σ' → W p l e R s m args below meth c H1 locs1 cells slots Q (F0 m (pc + 3) ls st1)) : W p l e R s m args below meth c H locs cells slots Q (F0 m pc ls st0) := by
  obtain ⟨hw, hK, hP, hD, hS⟩ := hG
  have hA : ∀ q, cA as H.size q → cA as H0.size q := fun q h => h.elim Or.inl (fun h => Or.inr (Nat.le_trans hS.1 h))
  intro T hT X
  obtain ⟨v', st₀, t, T', L, h0, X', hL, e1, e2, ⟨⟨hv, hP1⟩, hz, hk⟩, st⟩ := hr T hT X
  cases hv
  rw [h0] at hz hk
  subst hst
  obtain ⟨t2, a1, b1⟩ := kk T'.heap (locs ++ L) ⟨hw, hK, by rw [e1]; exact hP1, D_as hw hD,
    ⟨Nat.le_trans hS.1 (by rw [e1]; exact hz), fun q h1 h2 => by rw [e1, hk q (Nat.lt_of_lt_of_le h1 hS.1) (fun z => h2 (hA q z))]; exact hS.2.1 q h1 h2, fun q hq => by
      rcases List.mem_append.mp hq with h | h
      · exact hS.2.2 q h
      · exact hA _ (hL q h)⟩⟩ T' rfl X'
  exact ⟨t2, st t2 a1, b1⟩
theorem Pw_blind {av : List Value} {sz : Nat} : FrameBlind (va_Pc av (Pw D w cy sz σ)) := fun a U g mk q => by
  obtain ⟨q0, q1, qP, qK, qD⟩ := q
  exact ⟨q0, q1, qP, qK.calling, qD⟩
theorem Pw_at (hG : GW D w as cy s H0 H locs σ) {av : List Value} (U : State) (hU : U.heap = H) (hW : s.WarmedH U.vm) : va_Pc av (Pw D w cy H.size σ) av.toArray U := by
  obtain ⟨hw, hK, hP, hD, hS⟩ := hG
  exact ⟨rfl, by rw [hU], by rw [hU]; exact hP, hK.moved hW, hD.weaken (fun _ _ _ _ => trivial)⟩
/-- what a callee is, by the tables: a virtual one -/
def MV (y : MethodName) (bytes : ByteArray) (maxL : Nat) (rt : Option FieldType) (C : String) (n : Nat) : Prop := (.instanceMethod y ∈ TT ∧ .selects C y y ∈ TT ∧ .initialized C ∈ TT ∧ .code y bytes maxL rt ∈ TT) ∧ y.cls = C ∧ y.cls ≠ "java/lang/invoke/MethodHandle" ∧ y.cls ≠ "java/lang/invoke/VarHandle" ∧ (parseMethodDescriptor y.desc).map (fun d => d.parameters.length) = some n
/-- a static one -/
def MS (y : MethodName) (bytes : ByteArray) (maxL : Nat) (rt : Option FieldType) (n : Nat) : Prop := (.static y ∈ TT ∧ .initialized y.cls ∈ TT ∧ .code y bytes maxL rt ∈ TT) ∧ y.cls ≠ "java/lang/invoke/MethodHandle" ∧ y.cls ≠ "java/lang/invoke/VarHandle" ∧ (parseMethodDescriptor y.desc).map (fun d => d.parameters.length) = some n
/-- an inherited one, or an abstract one's body: x is named, y is run, in class C; 'owner' declares x -/
def MU (x y : MethodName) (owner : String) (bytes : ByteArray) (maxL : Nat) (rt : Option FieldType) (C : String) (n : Nat) : Prop := (.sameMethod x.cls owner x.name x.desc ∈ TT ∧ .selects C x y ∈ TT ∧ .instanceMethod y ∈ TT ∧ .initialized y.cls ∈ TT ∧ .code y bytes maxL rt ∈ TT) ∧ owner ≠ "java/lang/invoke/MethodHandle" ∧ owner ≠ "java/lang/invoke/VarHandle" ∧ (parseMethodDescriptor x.desc).map (fun d => d.parameters.length) = some n
theorem cl_V (E : CallFix p m c cc nL s args TT own) (hG : GW D w as cy s H0 H locs σ) (hM : Ctr l D w as cy y bytes maxL rt fr lo (.ref b :: As) σ v σ') (h1 : Cond.methodLink own idx y ∈ TT) (hI : MV y bytes maxL rt C n)
    (hR : fr + 1 ≤ R.frames ∧ 8 + (maxL + 11) + lo ≤ R.locals ∧ cells ≤ R.cells ∧ slots ≤ R.slots) (ci q0 : Nat) {T : u_T} {N : Nat} {fs : List Value} (hc : vwCl[ci]? = some (C, T, N)) (he : (w σ)[q0]? = some (b, .inr (ci, fs))) (hn : As.length = n) (hsz : ls.size = nL) (hst0 : st0 = As.reverse ++ .ref b :: rest) (hW : (rest.map fun v => v.category).sum ≤ 8) (hdg : decode cc pc = .ok (.invokevirtual idx, 3)) (hst : v.toList ++ rest = st1)
    (kk : ∀ (H1 : Heap) (locs1 : List Loc), GW D w as cy s H0 H1 locs1 σ' → W p l e R s m args below meth c H1 locs1 cells slots Q (F0 m (pc + 3) ls st1)) : W p l e R s m args below meth c H locs cells slots Q (F0 m pc ls st0) := by
  have hT : GoodIn TT (wsV own idx C y (.code y bytes maxL rt :: TT)) := fun z hz => by
    unfold wsV at hz
    rcases List.mem_append.mp hz with h | h
    · simp only [List.mem_cons, List.not_mem_nil, or_false] at h
      rcases h with rfl | rfl | rfl | rfl
      · exact ⟨h1, TT_good h1⟩
      · exact ⟨hI.1.1, TT_good hI.1.1⟩
      · exact ⟨hI.1.2.1, TT_good hI.1.2.1⟩
      · exact ⟨hI.1.2.2.1, TT_good hI.1.2.2.1⟩
    · exact TT_call hI.1.2.2.2 z h
  exact af (va_runV (As := As) (rest := rest) (b := b) (rm := { frames := fr, cells := 0, slots := 0, locals := lo }) E (hM H.size) (cwV n E.2.2.2.2 hT rfl rfl rfl hI.2 ⟨hR.1, hR.2.1⟩) ⟨Pw_blind, va_recv hG.2.1.1 hG.2.2.1 hc he, fun U hU hW => Pw_at hG U hU hW⟩ rfl hn hsz hst0 (lv_room hW) hdg ⟨hR.2.2.1, hR.2.2.2⟩) hG hst kk
theorem cl_S (E : CallFix p m c cc nL s args TT own) (hG : GW D w as cy s H0 H locs σ) (hM : Ctr l D w as cy y bytes maxL rt fr lo As σ v σ') (h1 : Cond.methodLink own idx y ∈ TT) (hI : MS y bytes maxL rt n)
    (hR : fr + 1 ≤ R.frames ∧ 8 + (maxL + 11) + lo ≤ R.locals ∧ cells ≤ R.cells ∧ slots ≤ R.slots) (hn : As.length = n) (hsz : ls.size = nL) (hst0 : st0 = As.reverse ++ rest) (hW : (rest.map fun v => v.category).sum ≤ 8) (hdg : decode cc pc = .ok (.invokestatic idx, 3)) (hst : v.toList ++ rest = st1)
    (kk : ∀ (H1 : Heap) (locs1 : List Loc), GW D w as cy s H0 H1 locs1 σ' → W p l e R s m args below meth c H1 locs1 cells slots Q (F0 m (pc + 3) ls st1)) : W p l e R s m args below meth c H locs cells slots Q (F0 m pc ls st0) := by
  have hT : GoodIn TT (va_wsS own idx y (.code y bytes maxL rt :: TT)) := fun z hz => by
    unfold va_wsS at hz
    rcases List.mem_append.mp hz with h | h
    · simp only [List.mem_cons, List.not_mem_nil, or_false] at h
      rcases h with rfl | rfl | rfl
      · exact ⟨h1, TT_good h1⟩
      · exact ⟨hI.1.1, TT_good hI.1.1⟩
      · exact ⟨hI.1.2.1, TT_good hI.1.2.1⟩
    · exact TT_call hI.1.2.2 z h
  exact af (va_runS (As := As) (rest := rest) (rm := { frames := fr, cells := 0, slots := 0, locals := lo }) E (hM H.size) (va_cwS n E.2.2.2.2 hT rfl rfl rfl hI.2 ⟨hR.1, hR.2.1⟩) ⟨Pw_blind, fun U hU hW => Pw_at hG U hU hW⟩ rfl hn hsz hst0 (lv_room hW) hdg ⟨hR.2.2.1, hR.2.2.2⟩) hG hst kk
theorem cl_U {x : MethodName} {owner : String} (E : CallFix p m c cc nL s args TT own) (hG : GW D w as cy s H0 H locs σ) (hM : Ctr l D w as cy y bytes maxL rt fr lo (.ref b :: As) σ v σ') (h1 : Cond.methodLink own idx x ∈ TT) (hI : MU x y owner bytes maxL rt C n) (hZ : y = ⟨owner, x.name, x.desc⟩ ∨ ycut = ⟨owner, x.name, x.desc⟩)
    (hR : fr + 1 ≤ R.frames ∧ 8 + (maxL + 11) + lo ≤ R.locals ∧ cells ≤ R.cells ∧ slots ≤ R.slots) (ci q0 : Nat) {T : u_T} {N : Nat} {fs : List Value} (hc : vwCl[ci]? = some (C, T, N)) (he : (w σ)[q0]? = some (b, .inr (ci, fs))) (hn : As.length = n) (hsz : ls.size = nL) (hst0 : st0 = As.reverse ++ .ref b :: rest) (hW : (rest.map fun v => v.category).sum ≤ 8) (hdg : decode cc pc = .ok (.invokevirtual idx, 3)) (hst : v.toList ++ rest = st1)
    (kk : ∀ (H1 : Heap) (locs1 : List Loc), GW D w as cy s H0 H1 locs1 σ' → W p l e R s m args below meth c H1 locs1 cells slots Q (F0 m (pc + 3) ls st1)) : W p l e R s m args below meth c H locs cells slots Q (F0 m pc ls st0) := by
  have hT : GoodIn TT (va_wsU own idx C owner x y (.code y bytes maxL rt :: TT)) := fun z hz => by
    unfold va_wsU at hz
    rcases List.mem_append.mp hz with h | h
    · simp only [List.mem_cons, List.not_mem_nil, or_false] at h
      rcases h with rfl | rfl | rfl | rfl | rfl
      · exact ⟨h1, TT_good h1⟩
      · exact ⟨hI.1.1, TT_good hI.1.1⟩
      · exact ⟨hI.1.2.1, TT_good hI.1.2.1⟩
      · exact ⟨hI.1.2.2.1, TT_good hI.1.2.2.1⟩
      · exact ⟨hI.1.2.2.2.1, TT_good hI.1.2.2.2.1⟩
    · exact TT_call hI.1.2.2.2.2 z h
  have cw : va_CU R s args own C owner idx x y bytes maxL rt (.code y bytes maxL rt :: TT) { frames := fr, cells := 0, slots := 0, locals := lo } 0 0 n := by
    rcases hZ with hZ | hZ
    · exact va_cwU n E.2.2.2.2 hT rfl rfl rfl hZ hI.2 ⟨hR.1, hR.2.1⟩
    · exact va_cwA n E.2.2.2.2 hT rfl rfl rfl (by rw [← hZ]; exact hG.2.1.2) hI.2 ⟨hR.1, hR.2.1⟩
  exact af (va_runU (As := As) (rest := rest) (b := b) (rm := { frames := fr, cells := 0, slots := 0, locals := lo }) E (hM H.size) cw ⟨Pw_blind, va_recv hG.2.1.1 hG.2.2.1 hc he, fun U hU hW => Pw_at hG U hU hW⟩ rfl hn hsz hst0 (lv_room hW) hdg ⟨hR.2.2.1, hR.2.2.2⟩) hG hst kk
/-- a field read -/
theorem g_get {own2 ref : String} {T : u_T} {N ci : Nat} (E : CallFix p m c cc nL s args TT own) (hG : GW D w as cy s H0 H locs σ) (hin : ∀ x ∈ u_ws C T N, x ∈ TT) (hc : vwCl[ci]? = some (C, T, N)) (q0 : Nat) {fs : List Value} (he : (w σ)[q0]? = some (a, .inr (ci, fs))) (k : Nat) (hk : k < N) (hlink : Cond.fieldLink own idx ref (T k).2.1 (T k).2.2.1 ∈ TT)
    (hsame : ref = (T k).1 ∨ Cond.sameField ref (T k).1 (T k).2.1 (T k).2.2.1 ∈ TT) {x : Value} (hv : fs[k]? = some x) (hdg : decode cc pc = .ok (.getfield idx, 3))
    (kk : W p l e R s m args below meth c H locs cells slots Q (F0 m (pc + 3) ls (x :: rest))) : W p l e R s m args below meth c H locs cells slots Q (F0 m pc ls (.ref a :: rest)) :=
  va_get E.1 E.2.1 E.2.2.2.2 hin E.2.2.2.1 hG.2.1.1 hG.2.2.1 q0 he hc k hk (E.2.2.2.2 _ hlink) (fun z hz => hsame.elim (fun q => by rw [q]; exact hz) (fun q => u_same (E.2.2.2.2 _ q) z hz)) hv hdg kk
/-- a field of ints written -/
theorem g_put {ref : String} {T : u_T} {N ci : Nat} {x : Int32} (E : CallFix p m c cc nL s args TT own) (hG : GW D w as cy s H0 H locs σ) (hin : ∀ x ∈ u_ws C T N, x ∈ TT) (ty : Nat → FieldType) (hty : ∀ k, k < N → parseFieldDescriptor (T k).2.2.1 = some (ty k)) (hnm : ∀ a, a < N → ∀ b, b < N → a ≠ b → (T a).2.1 ≠ (T b).2.1) (hc : vwCl[ci]? = some (C, T, N)) (q0 : Nat) {fs : List Value} (he : (w σ)[q0]? = some (a, .inr (ci, fs))) (k : Nat) (hk : k < N) (hlink : Cond.fieldLink own idx ref (T k).2.1 (T k).2.2.1 ∈ TT)
    (hsame : ref = (T k).1 ∨ Cond.sameField ref (T k).1 (T k).2.1 (T k).2.2.1 ∈ TT) (hfin : (T k).2.2.2 = false) (hd : (T k).2.2.1 = "I") (hl : k < fs.length) (hset : (w σ).set q0 (a, .inr (ci, fs.set k (.int x))) = w σ') (hdg : decode cc pc = .ok (.putfield idx, 3))
    (kk : ∀ (H1 : Heap) (locs1 : List Loc), GW D w as cy s H0 H1 locs1 σ' → W p l e R s m args below meth c H1 locs1 cells slots Q (F0 m (pc + 3) ls rest)) : W p l e R s m args below meth c H locs cells slots Q (F0 m pc ls (.int x :: .ref a :: rest)) := by
  refine va_put (v := .int x) (ty := .int) E.1 E.2.1 E.2.2.2.2 hin ty hty hnm E.2.2.2.1 hG.2.1.1 hG.2.2.1 hG.2.2.2.1 hG.2.2.2.2 q0 he hc k hk (E.2.2.2.2 _ hlink) (fun z hz => hsame.elim (fun q => by rw [q]; exact hz) (fun q => u_same (E.2.2.2.2 _ q) z hz)) hfin (by rw [hd]; decide +kernel) rfl rfl hl hdg (fun H1 locs1 hP hD hS => kk H1 locs1 ⟨hG.1, hG.2.1, ?_, ?_, hS⟩)
  · rw [← hset]; exact hP
  · rw [← hset]; exact hD
/-- an int array read, its place in range -/
theorem g_ld (E : CallFix p m c cc nL s args TT own) (hG : GW D w as cy s H0 H locs σ) (q0 : Nat) {N : Nat} {f : Nat → Int32} (ha : (w σ)[q0]? = some (a, .inl (cy, N, .inl f))) {i : Int32} (hin : vp_in i N) (hdg : decode cc pc = .ok (.iaload, 1))
    (kk : W p l e R s m args below meth c H locs cells slots Q (F0 m (pc + 1) ls (.int (f i.toNatClampNeg) :: rest))) : W p l e R s m args below meth c H locs cells slots Q (F0 m pc ls (.int i :: .ref a :: rest)) :=
  va_iald E.1 E.2.1 hG.2.1.1 hG.2.2.1 q0 0 ha rfl hin hdg kk
theorem g_st (E : CallFix p m c cc nL s args TT own) (hG : GW D w as cy s H0 H locs σ) (q0 : Nat) {N : Nat} {f : Nat → Int32} (ha : (w σ)[q0]? = some (a, .inl (cy, N, .inl f))) {i x : Int32} (hin : vp_in i N) (hset : (w σ).set q0 (a, .inl (cy, N, .inl (upd f i.toNatClampNeg x))) = w σ') (hdg : decode cc pc = .ok (.iastore, 1))
    (kk : ∀ (H1 : Heap) (locs1 : List Loc), GW D w as cy s H0 H1 locs1 σ' → W p l e R s m args below meth c H1 locs1 cells slots Q (F0 m (pc + 1) ls rest)) : W p l e R s m args below meth c H locs cells slots Q (F0 m pc ls (.int x :: .int i :: .ref a :: rest)) := by
  refine va_iast E.1 E.2.1 hG.2.1.1 hG.2.2.1 hG.2.2.2.1 hG.2.2.2.2 q0 0 ha rfl hin hdg (fun H1 locs1 hP hD hS => kk H1 locs1 ⟨hG.1, hG.2.1, ?_, ?_, hS⟩)
  · rw [← hset]; exact hP
  · rw [← hset]; exact hD
theorem g_len (E : CallFix p m c cc nL s args TT own) (hG : GW D w as cy s H0 H locs σ) (q0 : Nat) {N : Nat} {f : Nat → Int32} (ha : (w σ)[q0]? = some (a, .inl (cy, N, .inl f))) {x : Int32} (hv : Int32.ofNat N = x) (hdg : decode cc pc = .ok (.arraylength, 1))
    (kk : W p l e R s m args below meth c H locs cells slots Q (F0 m (pc + 1) ls (.int x :: rest))) : W p l e R s m args below meth c H locs cells slots Q (F0 m pc ls (.ref a :: rest)) :=
  va_alen E.1 E.2.1 hG.2.1.1 hG.2.2.1 q0 0 ha rfl hv hdg kk
theorem r_i {x r : Int32} (E : CallFix p m c cc nL s args TT own) (hr : meth.sig.returnType = some .int) (hlk : meth.locks = false) (hG : GW D w as cy s s.heap H locs σ) (hf : some (x, σ) = some (r, σ')) (hdg : decode cc pc = .ok (.ireturn, 1)) :
    W p l e R s m args below meth c H locs cells slots (MQ below (Qw D w (some (.int r)) σ' (cA as s.heap.size)) args s cells slots (cA as s.heap.size)) (F0 m pc ls [.int x]) := by
  cases hf
  exact W.iret E.1 E.2.1 hr (fun t ht _ => ⟨⟨rfl, by rw [ht]; exact hG.2.2.1⟩, hG.2.2.2.2.F ht⟩) hG.2.2.2.2.2.2 hdg hlk
theorem r_z {x r : Int32} (E : CallFix p m c cc nL s args TT own) (hr : meth.sig.returnType = some .boolean) (hlk : meth.locks = false) (hG : GW D w as cy s s.heap H locs σ) (hf : some (x, σ) = some (r, σ')) (hx : narrow .boolean (.int x) = .int x) (hdg : decode cc pc = .ok (.ireturn, 1)) :
    W p l e R s m args below meth c H locs cells slots (MQ below (Qw D w (some (.int r)) σ' (cA as s.heap.size)) args s cells slots (cA as s.heap.size)) (F0 m pc ls [.int x]) := by
  cases hf
  exact W.zret E.1 E.2.1 hr hx (fun t ht _ => ⟨⟨rfl, by rw [ht]; exact hG.2.2.1⟩, hG.2.2.2.2.F ht⟩) hG.2.2.2.2.2.2 hdg hlk
theorem r_l {x r : Int64} (E : CallFix p m c cc nL s args TT own) (hr : meth.sig.returnType = some .long) (hlk : meth.locks = false) (hG : GW D w as cy s s.heap H locs σ) (hf : some (x, σ) = some (r, σ')) (hdg : decode cc pc = .ok (.lreturn, 1)) :
    W p l e R s m args below meth c H locs cells slots (MQ below (Qw D w (some (.long r)) σ' (cA as s.heap.size)) args s cells slots (cA as s.heap.size)) (F0 m pc ls [.long x]) := by
  cases hf
  exact W.lret E.1 E.2.1 hr (fun t ht _ => ⟨⟨rfl, by rw [ht]; exact hG.2.2.1⟩, hG.2.2.2.2.F ht⟩) hG.2.2.2.2.2.2 hdg hlk
theorem r_v {u : Unit} (E : CallFix p m c cc nL s args TT own) (hr : meth.sig.returnType = none) (hlk : meth.locks = false) (hG : GW D w as cy s s.heap H locs σ) (hf : some ((), σ) = some (u, σ')) (hdg : decode cc pc = .ok (.return_, 1)) :
    W p l e R s m args below meth c H locs cells slots (MQ below (Qw D w none σ' (cA as s.heap.size)) args s cells slots (cA as s.heap.size)) (F0 m pc ls []) := by
  cases hf
  exact W.vret E.1 E.2.1 hr (fun t ht _ => ⟨⟨rfl, by rw [ht]; exact hG.2.2.1⟩, hG.2.2.2.2.F ht⟩) hG.2.2.2.2.2.2 hdg hlk
end BASE
/-- the translation's own words: a place in range, a divisor that isn't 0, a call -/
def gd {β : Type} (i : Int32) (n : Nat) (k : Option β) : Option β := if i < 0 ∨ n ≤ i.toNatClampNeg then none else k
def gz {β : Type} (x : Int32) (k : Option β) : Option β := if x = 0 then none else k
def gZ {β : Type} (x : Int64) (k : Option β) : Option β := if x = 0 then none else k
def gb {β : Type} (x : Int32) (k : Option β) : Option β := if x = 0 ∨ x = 1 then k else none
def bd {α β : Type} (o : Option (α × SS)) (k : α → SS → Option β) : Option β := match o with
  | none => none
  | some q => k q.1 q.2
theorem gd_some {β : Type} {i : Int32} {n : Nat} {k : Option β} {b : β} (h : gd i n k = some b) : vp_in i n ∧ k = some b := by
  unfold gd at h
  by_cases hc : i < 0 ∨ n ≤ i.toNatClampNeg
  · rw [if_pos hc] at h; cases h
  · rw [if_neg hc] at h; exact ⟨hc, h⟩
theorem gz_some {β : Type} {x : Int32} {k : Option β} {b : β} (h : gz x k = some b) : ¬ x = 0 ∧ k = some b := by
  unfold gz at h
  by_cases hc : x = 0
  · rw [if_pos hc] at h; cases h
  · rw [if_neg hc] at h; exact ⟨hc, h⟩
theorem gZ_some {β : Type} {x : Int64} {k : Option β} {b : β} (h : gZ x k = some b) : ¬ x = 0 ∧ k = some b := by
  unfold gZ at h
  by_cases hc : x = 0
  · rw [if_pos hc] at h; cases h
  · rw [if_neg hc] at h; exact ⟨hc, h⟩
theorem gb_some {β : Type} {x : Int32} {k : Option β} {b : β} (h : gb x k = some b) : narrow .boolean (.int x) = .int x ∧ k = some b := by
  unfold gb at h
  by_cases hc : x = 0 ∨ x = 1
  · rw [if_pos hc] at h
    rcases hc with rfl | rfl
    · exact ⟨by decide +kernel, h⟩
    · exact ⟨by decide +kernel, h⟩
  · rw [if_neg hc] at h; cases h
theorem bd_some {α β : Type} {o : Option (α × SS)} {k : α → SS → Option β} {b : β} (h : bd o k = some b) : ∃ (r : α) (σ1 : SS), o = some (r, σ1) ∧ k r σ1 = some b := by
  unfold bd at h
  cases o with
  | none => cases h
  | some q => exact ⟨q.1, q.2, rfl, h⟩
def FUEL : Nat := 1000
