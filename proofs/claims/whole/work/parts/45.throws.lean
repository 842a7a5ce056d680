/-! the two methods that throw -/
def xNX : List String := ["java/lang/IndexOutOfBoundsException", "java/lang/RuntimeException", "java/lang/Exception"]
def xNA : List String := ["java/lang/RuntimeException", "java/lang/Exception"]
def xAr : String := "java/lang/ArithmeticException"
def XB : List Cond := [.declares (Bundle.initS "java/lang/IndexOutOfBoundsException"), .declares (Bundle.initS "java/lang/RuntimeException"), .declares (Bundle.initS "java/lang/Exception"), .declares (Bundle.initS Bundle.tN), .castable RJx00060 RJx00060, .castable xAr xAr]
theorem XB_on : ∀ w ∈ XB, w.onTables = true := by decide +kernel
theorem XB_in : ∀ w ∈ XB, w ∈ lw_tbl := by decide +kernel
theorem xw_a1 : ∀ w ∈ (vx_atS RX11 131 RJx00060 xNX).filter goodWord, w ∈ lw_tbl := by decide +kernel
theorem xw_a2 : ∀ w ∈ (vx_atS RX11 131 RJx00060 xNX).filter (fun w => !goodWord w), w ∈ XB := by decide +kernel
theorem xw_a3 : ∀ w ∈ Cond.classLink RX11 127 RJx00060 :: Cond.initialized RJx00060 :: vx_atS RX11 131 RJx00060 xNX, vx_ot w = true := by decide +kernel
theorem xw_b1 : ∀ w ∈ (vx_atS RX11 141 xAr xNA).filter goodWord, w ∈ lw_tbl := by decide +kernel
theorem xw_b2 : ∀ w ∈ (vx_atS RX11 141 xAr xNA).filter (fun w => !goodWord w), w ∈ XB := by decide +kernel
theorem xw_b3 : ∀ w ∈ Cond.classLink RX11 137 xAr :: Cond.initialized xAr :: vx_atS RX11 141 xAr xNA, vx_ot w = true := by decide +kernel
/-- what a throw needs of the start: words, texts, two statics that lie below N0 -/
def XS (N0 : Nat) (sa : Nat → Nat) (U : State) (H : Heap) : Prop := (∀ w ∈ XB, va_Nw w U) ∧ va_Nc RJx00060 xAr U ∧ (vk_R RX11 129 "no such sign" (sa 0) U ∧ vk_R RX11 139 "/ by zero" (sa 1) U ∧ vk_R RX11 198 "no such symbol" (sa 2) U) ∧ vx_Zq Bundle.tN "UNASSIGNED_STACK" Bundle.steD (fun q => N0 ≤ q) U H ∧ vx_Zq Bundle.tN "SUPPRESSED_SENTINEL" Bundle.listD (fun q => N0 ≤ q) U H
theorem XB_warm {s U : State} (hW : s.WarmedH U.vm) (h : ∀ w ∈ XB, va_Nw w s) : ∀ w ∈ XB, va_Nw w U := by
  intro w hw
  have h1 := h w hw
  unfold XB at hw
  simp only [List.mem_cons, List.not_mem_nil, or_false] at hw
  rcases hw with rfl | rfl | rfl | rfl | rfl | rfl
  · exact va_Nw.warmD hW h1
  · exact va_Nw.warmD hW h1
  · exact va_Nw.warmD hW h1
  · exact va_Nw.warmD hW h1
  · exact va_Nw.warmC hW h1
  · exact va_Nw.warmC hW h1
theorem XS.warm {N0 : Nat} {sa : Nat → Nat} {s U : State} {H : Heap} (hW : s.WarmedH U.vm) (h : XS N0 sa s H) : XS N0 sa U H := by
  obtain ⟨h1, h2, ⟨h3, h4, h5⟩, h6, h7⟩ := h
  exact ⟨XB_warm hW h1, va_Nc.moved hW.alike h2, ⟨vk_R.warm hW h3, vk_R.warm hW h4, vk_R.warm hW h5⟩, vx_Zq.moved hW.alike h6, vx_Zq.moved hW.alike h7⟩
theorem XS.calling {N0 : Nat} {sa : Nat → Nat} {U : State} {H : Heap} {g : JFrame} {mk : MethodId} {a : Array Value} (h : XS N0 sa U H) : XS N0 sa (U.calling g mk a) H := by
  obtain ⟨h1, h2, ⟨h3, h4, h5⟩, h6, h7⟩ := h
  have al : U.vm.Alike (U.calling g mk a).vm := Vm.Alike.refl U.vm
  exact ⟨fun w hw => va_Nw.same (u := U) (U := U.calling g mk a) (XB_on w hw) rfl (h1 w hw), va_Nc.moved al h2, ⟨vk_R.same (u := U) rfl h3, vk_R.same (u := U) rfl h4, vk_R.same (u := U) rfl h5⟩, vx_Zq.moved al h6, vx_Zq.moved al h7⟩
theorem XS.kept {N0 : Nat} {sa : Nat → Nat} {U : State} {H H1 : Heap} (h : XS N0 sa U H) (hq : ∀ a : Nat, a < H.size → ¬ N0 ≤ a → H1[a]? = H[a]?) : XS N0 sa U H1 := by
  obtain ⟨h1, h2, h3, h6, h7⟩ := h
  exact ⟨h1, h2, h3, h6.kept hq, h7.kept hq⟩
def Px (D : va_G) (ad : Nat → Nat) (cy : ClassId) (N0 : Nat) (sa : Nat → Nat) (sz : Nat) (σ : SS) : State → Prop := fun U => Pw D (cw ad cy) cy sz σ U ∧ (N0 ≤ sz ∧ ∀ a ∈ cas ad, N0 ≤ a) ∧ XS N0 sa U U.heap
abbrev Xx (D : va_G) (ad : Nat → Nat) (cy : ClassId) (sz : Nat) (E0 : String) (σ' : SS) : String → State → State → Prop := vx_X (S := Unit) (fun _ => True) (fun E _ t => E = E0 ∧ va_P D vwCl (cw ad cy σ') t.heap) (cA (cas ad) sz)
/-- method y of the class, called with av in state σ, throws E0 and leaves state σ' -/
def CtX (l : Launch) (D : va_G) (ad : Nat → Nat) (cy : ClassId) (N0 : Nat) (sa : Nat → Nat) (y : MethodName) (cc : ByteArray) (rt : Option FieldType) (fr lo : Nat) (av : List Value) (σ : SS) (E0 : String) (σ' : SS) (Qf : (Nat → Prop) → Array Value → State → Outcome → State → Prop) : Prop :=
  ∀ sz : Nat, vx_Met l y (.code y cc 2 rt :: TT) { frames := fr, cells := 1, slots := 6, locals := lo } (va_Pc av (Px D ad cy N0 sa sz σ)) (Qf (cA (cas ad) sz)) (Xx D ad cy sz E0 σ') 1 6 (cA (cas ad) sz)
theorem CtX.of {l : Launch} {D : va_G} {ad : Nat → Nat} {cy : ClassId} {N0 : Nat} {sa : Nat → Nat} {y : MethodName} {cc : ByteArray} {rt : Option FieldType} {fr lo : Nat} {av : List Value} {σ : SS} {E0 : String} {σ' : SS} {Qf : (Nat → Prop) → Array Value → State → Outcome → State → Prop} (hy : plainName y.cls = true) (hn : (lg_sl av).length ≤ 2)
    (body : ∀ (p : Program) (e : Env) (s : State) (m : MethodId) (args : Array Value) (below : List Frame) (meth : Method) (c : Code) (ls : Array Slot), CallFix p m c cc 2 s args TT y.cls → meth.locks = false → (∀ x ∈ c.exceptionTable.toList, False) → lv_has ls 2 (lv_args 0 av) → GW D (cw ad cy) (cas ad) cy s s.heap s.heap [] σ → (N0 ≤ s.heap.size ∧ ∀ a ∈ cas ad, N0 ≤ a) → XS N0 sa s s.heap →
      W p l e { frames := fr, cells := 1, slots := 6, locals := lo } s m args below meth c s.heap [] 0 0 (vx_MQ below (Qf (cA (cas ad) s.heap.size)) (Xx D ad cy s.heap.size E0 σ') args s 1 6 (cA (cas ad) s.heap.size)) (F0 m 0 ls [])) : CtX l D ad cy N0 sa y cc rt fr lo av σ E0 σ' Qf := by
  intro sz
  refine vx_ofW (cc := cc) (maxL := 2) (ret := rt) hy rfl ?_
  intro p e s m args below meth c s₁ B hml htab hv
  obtain ⟨rfl, ⟨hsz, hP, hK, hD0⟩, hN, hX⟩ := hv
  have hts := atoms_spec (ws := .code y cc 2 rt :: TT) B.pre
  have hown : s.vm.findClass y.cls = some m.cls := findClass_of_methodNamed B.named
  subst hsz
  have hl := lv_entry av (n := 2) hn
  rw [lg_entry_eq]
  exact body p e s m _ below meth c _ ⟨B.exec, B.bytes, hml, hown, fun w h => hts w (List.mem_cons_of_mem _ h)⟩ B.notSynchronized htab hl ⟨cw_as ad cy, hK, hP, A_as (cw_as ad cy) hD0, va_S.rf⟩ hN hX
/-- 'throw new E0("text")' in the class -/
theorem xt_throw {p : Program} {l : Launch} {e : Env} {s : State} {m : MethodId} {args : Array Value} {below : List Frame} {meth : Method} {c : Code} {H : Heap} {locs : List Loc} {cc : ByteArray} {pc fr lo ik is ic k : Nat} {ls : Array Slot} {D : va_G} {ad : Nat → Nat} {cy : ClassId} {N0 : Nat} {sa : Nat → Nat} {σ' : SS} {E0 text : String} {names : List String} {Qf : (Nat → Prop) → Array Value → State → Outcome → State → Prop}
    (hl : l.stackTraces = false) (E : CallFix p m c cc 2 s args TT RX11) (hlk : meth.locks = false) (htab : ∀ x ∈ c.exceptionTable.toList, False) (hG : GW D (cw ad cy) (cas ad) cy s s.heap H locs σ') (hN : N0 ≤ s.heap.size ∧ ∀ a ∈ cas ad, N0 ≤ a) (hX : XS N0 sa s s.heap) (hsz : ls.size = 2) (hcls : Bundle.fit E0 = true) (hnames : ∀ n ∈ names, Bundle.fit n = true)
    (w1 : Cond.classLink RX11 ik E0 ∈ TT) (w2 : Cond.initialized E0 ∈ TT) (hstr : vk_R RX11 is text (sa k) s) (a1 : ∀ w ∈ (vx_atS RX11 ic E0 names).filter goodWord, w ∈ lw_tbl) (a2 : ∀ w ∈ (vx_atS RX11 ic E0 names).filter (fun w => !goodWord w), w ∈ XB) (a3 : ∀ w ∈ Cond.classLink RX11 ik E0 :: Cond.initialized E0 :: vx_atS RX11 ic E0 names, vx_ot w = true)
    (d0 : decode cc pc = .ok (.new ik, 3)) (d3 : decode cc (pc + 3) = .ok (.dup, 1)) (d4 : decode cc (pc + 4) = .ok (.ldc is, 2)) (d6 : decode cc (pc + 6) = .ok (.invokespecial ic, 3)) (d9 : decode cc (pc + 9) = .ok (.athrow, 1)) (hR : names.length + 3 < fr ∧ 13 * (names.length + 1) + 43 ≤ lo) :
    W p l e { frames := fr, cells := 1, slots := 6, locals := lo } s m args below meth c H locs 0 0 (vx_MQ below (Qf (cA (cas ad) s.heap.size)) (Xx D ad cy s.heap.size E0 σ') args s 1 6 (cA (cas ad) s.heap.size)) (F0 m pc ls []) := by
  obtain ⟨hw, hK, hP, hD, hS⟩ := hG
  have hle : ∀ q, cA (cas ad) s.heap.size q → N0 ≤ q := fun q h => h.elim (fun z => hN.2 q z) (fun z => Nat.le_trans hN.1 z)
  have hS' : va_S (fun q => N0 ≤ q) s.heap H locs := ⟨hS.1, fun q h1 h2 => hS.2.1 q h1 (fun z => h2 (hle q z)), fun z hz => hle _ (hS.2.2 z hz)⟩
  refine vx_throwS (own := RX11) (cls := E0) (names := names) (ik := ik) (is := is) (ic := ic) (sa := sa k) (text := text) (A := fun q => N0 ≤ q) E.1 E.2.1 hl E.2.2.2.1 hcls hnames (E.2.2.2.2 _ w1) (E.2.2.2.2 _ w2) hstr ?_ a3 hX.2.2.2.1 hX.2.2.2.2 hS' (by rw [E.2.2.1]; exact hsz) d0 d3 d4 d6 d9 (fun x hx => (htab x hx).elim) hR.1 (by show 0 + _ ≤ lo; omega) (Nat.le_refl 1) (Nat.le_refl 6) hlk ?_ hS.2.2 (Nat.le_refl 1) (Nat.le_refl 6)
  · exact vx_hat (B := XB) (fun w hw => E.2.2.2.2 w (List.mem_filter.mpr ⟨a1 w hw, (List.mem_filter.mp hw).2⟩)) a2 (fun w hw => va_Nw.use (XB_on w hw) (hX.1 w hw))
  · intro t hvm hz hq
    exact ⟨(), trivial, ⟨rfl, hP.kept (fun j q hj => hq q.1 (hP j q hj).lt)⟩, Nat.le_trans hS.1 hz, fun q h1 h2 => (hq q (Nat.lt_of_lt_of_le h1 hS.1)).trans (hS.2.1 q h1 h2)⟩
set_option maxHeartbeats 4000000 in
set_option maxRecDepth 100000 in
theorem x_share_a {l : Launch} {D : va_G} {ad : Nat → Nat} {cy : ClassId} {N0 : Nat} {sa : Nat → Nat} {σ : SS} {x : Int32} {Qf : (Nat → Prop) → Array Value → State → Outcome → State → Prop} (hs : l.stackTraces = false) (hw : wi x 0 15 = 0) : CtX l D ad cy N0 sa yX11_share cX11_share (some FieldType.long) 7 100 [.ref (ad 0), .int x] σ RJx00060 σ Qf := by
  refine CtX.of rfl (Nat.le_of_ble_eq_true rfl) (fun p e s m args below meth c ls E hlk htab hl hG hN hX => ?_)
  have hl : lv_has ls 2 [(0, .ref (ad 0)), (1, .int x)] := hl
  refine lv_iload_n E.1 E.2.1 dX11_share_0 rfl (lv_at hl 1 rfl) ?_
  refine cl_S (rest := []) (st1 := [.int (wi x 0 15)]) (As := [.int x]) E hG (c_c_X11_isSign (isSign_c σ x)) Wd_362 mi_X11_isSign ⟨Nat.le_of_ble_eq_true rfl, Nat.le_of_ble_eq_true rfl, Nat.zero_le _, Nat.zero_le _⟩ rfl hl.1 rfl (Nat.le_of_ble_eq_true rfl) dX11_share_1 rfl (fun H locs hG => ?_)
  refine lv_if_ne (tgt := 17) E.1 E.2.1 dX11_share_4 (by decide) (fun hc => absurd hw hc) (fun hc => ?_)
  exact xt_throw (names := xNX) (k := 0) (ik := 127) (is := 129) (ic := 131) hs E hlk htab hG hN hX hl.1 (by decide +kernel) (by decide +kernel) Wd_728 Wd_62 hX.2.2.1.1 xw_a1 xw_a2 xw_a3 dX11_share_7 dX11_share_10 dX11_share_11 dX11_share_13 dX11_share_16 ⟨by decide, by decide⟩
set_option maxHeartbeats 4000000 in
set_option maxRecDepth 100000 in
theorem x_share_b {l : Launch} {D : va_G} {ad : Nat → Nat} {cy : ClassId} {N0 : Nat} {sa : Nat → Nat} {σ : SS} {x : Int32} {Qf : (Nat → Prop) → Array Value → State → Outcome → State → Prop} (hs : l.stackTraces = false) (hw : ¬ wi x 0 15 = 0) (h0 : σ.1 2 = 0) : CtX l D ad cy N0 sa yX11_share cX11_share (some FieldType.long) 7 100 [.ref (ad 0), .int x] σ xAr σ Qf := by
  refine CtX.of rfl (Nat.le_of_ble_eq_true rfl) (fun p e s m args below meth c ls E hlk htab hl hG hN hX => ?_)
  have hl : lv_has ls 2 [(0, .ref (ad 0)), (1, .int x)] := hl
  refine lv_iload_n E.1 E.2.1 dX11_share_0 rfl (lv_at hl 1 rfl) ?_
  refine cl_S (rest := []) (st1 := [.int (wi x 0 15)]) (As := [.int x]) E hG (c_c_X11_isSign (isSign_c σ x)) Wd_362 mi_X11_isSign ⟨Nat.le_of_ble_eq_true rfl, Nat.le_of_ble_eq_true rfl, Nat.zero_le _, Nat.zero_le _⟩ rfl hl.1 rfl (Nat.le_of_ble_eq_true rfl) dX11_share_1 rfl (fun H locs hG => ?_)
  refine lv_if_ne (tgt := 17) E.1 E.2.1 dX11_share_4 (by decide) (fun hc => ?_) (fun hc => absurd hc hw)
  refine lv_aload_n E.1 E.2.1 dX11_share_17 rfl (lv_at hl 0 rfl) ?_
  refine fg_c_X11_19_0 E hG dX11_share_18 ?_
  refine fg_c_X11_134_4 E hG dX11_share_21 ?_
  refine lv_if_ne (tgt := 37) E.1 E.2.1 dX11_share_24 (by decide) (fun hc => absurd h0 hc) (fun hc => ?_)
  exact xt_throw (names := xNA) (k := 1) (ik := 137) (is := 139) (ic := 141) hs E hlk htab hG hN hX hl.1 (by decide +kernel) (by decide +kernel) Wd_731 Wd_59 hX.2.2.1.2.1 xw_b1 xw_b2 xw_b3 dX11_share_27 dX11_share_30 dX11_share_31 dX11_share_33 dX11_share_36 ⟨by decide, by decide⟩
set_option maxHeartbeats 4000000 in
set_option maxRecDepth 100000 in
theorem x_symbol {l : Launch} {D : va_G} {ad : Nat → Nat} {cy : ClassId} {N0 : Nat} {sa : Nat → Nat} {σ σ8 : SS} {x : Int32} {Qf : (Nat → Prop) → Array Value → State → Outcome → State → Prop} (hs : l.stackTraces = false) (hf : f_c_X3_follow σ = some ((), σ8)) (hw : wi x 0 (σ8.1 14 - 1) = 0) : CtX l D ad cy N0 sa yX11_symbol cX11_symbol (some FieldType.int) 7 120 [.ref (ad 0), .int x] σ RJx00060 σ8 Qf := by
  refine CtX.of rfl (Nat.le_of_ble_eq_true rfl) (fun p e s m args below meth c ls E hlk htab hl hG hN hX => ?_)
  have hl : lv_has ls 2 [(0, .ref (ad 0)), (1, .int x)] := hl
  refine lv_aload_n E.1 E.2.1 dX11_symbol_0 rfl (lv_at hl 0 rfl) ?_
  refine fg_c_X11_61_0 E hG dX11_symbol_1 ?_
  refine lv_aload_n E.1 E.2.1 dX11_symbol_4 rfl (lv_at hl 0 rfl) ?_
  refine fg_c_X11_10_0 E hG dX11_symbol_5 ?_
  refine cl_V (rest := []) (st1 := []) (As := [.ref (ad 1)]) E hG (c_c_X3_follow hf) Wd_592 mi_X3_follow ⟨Nat.le_of_ble_eq_true rfl, Nat.le_of_ble_eq_true rfl, Nat.zero_le _, Nat.zero_le _⟩ 5 28 rfl rfl rfl hl.1 rfl (Nat.le_of_ble_eq_true rfl) dX11_symbol_8 rfl (fun H locs hG => ?_)
  refine lv_iload_n E.1 E.2.1 dX11_symbol_11 rfl (lv_at hl 1 rfl) ?_
  refine lv_iconst (v := (0 : Int32)) E.1 E.2.1 dX11_symbol_12 (by decide) ?_
  refine lv_aload_n E.1 E.2.1 dX11_symbol_13 rfl (lv_at hl 0 rfl) ?_
  refine fg_c_X11_61_0 E hG dX11_symbol_14 ?_
  refine fg_c_X11_188_28 E hG dX11_symbol_17 ?_
  refine lv_iconst (v := (1 : Int32)) E.1 E.2.1 dX11_symbol_20 (by decide) ?_
  refine lv_isub E.1 E.2.1 dX11_symbol_21 ?_
  refine cl_S (rest := []) (st1 := [.int (wi x 0 (σ8.1 14 - 1))]) (As := [.int x, .int (0 : Int32), .int ((σ8.1 14) - (1 : Int32))]) E hG (c_c_X11_within (wi_c σ8 x 0 (σ8.1 14 - 1))) Wd_365 mi_X11_within ⟨Nat.le_of_ble_eq_true rfl, Nat.le_of_ble_eq_true rfl, Nat.zero_le _, Nat.zero_le _⟩ rfl hl.1 rfl (Nat.le_of_ble_eq_true rfl) dX11_symbol_22 rfl (fun H locs hG => ?_)
  refine lv_if_ne (tgt := 38) E.1 E.2.1 dX11_symbol_25 (by decide) (fun hc => absurd hw hc) (fun hc => ?_)
  exact xt_throw (names := xNX) (k := 2) (ik := 127) (is := 198) (ic := 131) hs E hlk htab hG hN hX hl.1 (by decide +kernel) (by decide +kernel) Wd_728 Wd_62 hX.2.2.1.2.2 xw_a1 xw_a2 xw_a3 dX11_symbol_28 dX11_symbol_31 dX11_symbol_32 dX11_symbol_34 dX11_symbol_37 ⟨by decide, by decide⟩
