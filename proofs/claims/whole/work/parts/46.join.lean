/-! a world beside others: calls that touch one of them -/
theorem vaD_nd {A : Nat → Prop} {ws : va_W} : va_D A ws ↔ (ws.map Prod.fst).Nodup ∧ ∀ q ∈ ws, A q.1 := by
  constructor
  · intro h
    refine ⟨List.pairwise_iff_getElem.mpr (fun i j hi hj hij heq => ?_), fun q hq => ?_⟩
    · rw [List.length_map] at hi hj
      rw [List.getElem_map, List.getElem_map] at heq
      have := h.1 i j _ _ (List.getElem?_eq_getElem hi) (List.getElem?_eq_getElem hj) heq
      omega
    · obtain ⟨k, hk⟩ := List.getElem?_of_mem hq
      exact h.2 k q hk
  · rintro ⟨h1, h2⟩
    refine ⟨fun i j a b hi hj hab => ?_, fun k q hk => h2 q (List.mem_of_getElem? hk)⟩
    obtain ⟨hi1, hi2⟩ := List.getElem?_eq_some_iff.mp hi
    obtain ⟨hj1, hj2⟩ := List.getElem?_eq_some_iff.mp hj
    have h3 := List.pairwise_iff_getElem.mp h1
    rcases Nat.lt_trichotomy i j with q | q | q
    · exact absurd (by rw [List.getElem_map, List.getElem_map, hi2, hj2]; exact hab) (h3 i j (by rw [List.length_map]; exact hi1) (by rw [List.length_map]; exact hj1) q)
    · exact q
    · exact absurd (by rw [List.getElem_map, List.getElem_map, hi2, hj2]; exact hab.symm) (h3 j i (by rw [List.length_map]; exact hj1) (by rw [List.length_map]; exact hi1) q)
theorem KG.perm {D : va_G} {A : Nat → Prop} {s : State} {H : Heap} {locs : List Loc} {ws ws' : va_W} (h : KG D A s H locs ws) (hp : ws.Perm ws') : KG D A s H locs ws' := by
  obtain ⟨h1, h2, h3⟩ := h
  obtain ⟨d1, d2⟩ := vaD_nd.mp h2
  refine ⟨fun k q hk => ?_, vaD_nd.mpr ⟨(hp.map Prod.fst).nodup_iff.mp d1, fun q hq => d2 q (hp.mem_iff.mpr hq)⟩, h3⟩
  obtain ⟨j, hj⟩ := List.getElem?_of_mem (hp.mem_iff.mpr (List.mem_of_getElem? hk))
  exact h1 j q hj
/-- one world has changed, the others lie where they were -/
theorem j_join {D : va_G} {A : Nat → Prop} {s : State} {H H1 : Heap} {locs locs1 : List Loc} {w w1 wr : va_W} {as : List Nat} (hw : w.map Prod.fst = as) (hw1 : w1.map Prod.fst = as) (hG : KG D A s H locs (w ++ wr)) (hP1 : va_P D vwCl w1 H1) (hk : ∀ q : Nat, q < H.size → ¬ cA as H.size q → H1[q]? = H[q]?) (hS1 : va_S A s.heap H1 locs1) : KG D A s H1 locs1 (w1 ++ wr) := by
  obtain ⟨hP, hD, hS⟩ := hG
  obtain ⟨d1, d2⟩ := vaD_nd.mp hD
  refine ⟨va_P.app hP1 (fun k q hq => ?_), vaD_nd.mpr ⟨?_, fun q hq => ?_⟩, hS1⟩
  · have hm : (w ++ wr)[w.length + k]? = some q := by rw [List.getElem?_append_right (by omega)]; rw [show w.length + k - w.length = k by omega]; exact hq
    have h1 := hP _ q hm
    refine h1.kept (hk q.1 h1.lt (fun h => ?_))
    rcases h with h | h
    · rw [← hw] at h
      obtain ⟨z, z1, z2⟩ := List.mem_map.mp h
      obtain ⟨j, hj⟩ := List.getElem?_of_mem z1
      have := hD.1 j (w.length + k) z q (app_l hj) hm z2
      have := (List.getElem?_eq_some_iff.mp hj).1
      omega
    · have := h1.lt
      omega
  · rw [List.map_append, hw1, ← hw, ← List.map_append]; exact d1
  · rcases List.mem_append.mp hq with h | h
    · have h1 : q.1 ∈ w.map Prod.fst := by rw [hw, ← hw1]; exact List.mem_map_of_mem h
      obtain ⟨z, z1, z2⟩ := List.mem_map.mp h1
      rw [← z2]; exact d2 z (List.mem_append_left _ z1)
    · exact d2 q (List.mem_append_right _ h)
theorem KG.left {D : va_G} {A : Nat → Prop} {s : State} {H : Heap} {locs : List Loc} {a b : va_W} (h : KG D A s H locs (a ++ b)) : va_P D vwCl a H ∧ va_D A a := ⟨fun k q hk => h.1 k q (app_l hk), ⟨fun i j x y hi hj => h.2.1.1 i j x y (app_l hi) (app_l hj), fun k q hk => h.2.1.2 k q (app_l hk)⟩⟩
theorem KG.free {D : va_G} {A : Nat → Prop} {s : State} {H : Heap} {locs : List Loc} {a b : va_W} {as : List Nat} (h : KG D A s H locs (a ++ b)) (ha : a.map Prod.fst = as) (hA : ∀ q, s.heap.size ≤ q → A q) : ∀ q, cA as H.size q → A q := fun q hq => by
  rcases hq with hq | hq
  · rw [← ha] at hq
    obtain ⟨z, z1, z2⟩ := List.mem_map.mp hq
    rw [← z2]; exact (vaD_nd.mp h.2.1).2 z (List.mem_append_left _ z1)
  · exact hA q (Nat.le_trans h.2.2.1 hq)
section JN
variable {p : Program} {l : Launch} {e : Env} {R : Room} {s : State} {m : MethodId} {args : Array Value} {below : List Frame} {meth : Method} {c : Code} {H : Heap} {locs : List Loc} {cells slots : Nat} {Q : State → Prop}
variable {cc bytes : ByteArray} {pc nL maxL n idx fr lo : Nat} {ls : Array Slot} {rest st0 st1 As : List Value} {D : va_G} {A : Nat → Prop} {w : SS → va_W} {wr : va_W} {as : List Nat} {cy : ClassId} {σ σ' : SS} {v : Option Value} {rt : Option FieldType} {own C : String} {y : MethodName} {b : Nat}
theorem j_af {av : Array Value} (hw : ∀ σ, (w σ).map Prod.fst = as) (hr : va_Run p l e R s m args below meth c H locs cells slots 0 0 (F0 m pc ls st0) rest (Qw D w v σ' (cA as H.size) av) (cA as H.size)) (hA : ∀ q, s.heap.size ≤ q → A q) (hG : KG D A s H locs (w σ ++ wr)) (hst : v.toList ++ rest = st1)
    (kk : ∀ (H1 : Heap) (locs1 : List Loc), KG D A s H1 locs1 (w σ' ++ wr) → W p l e R s m args below meth c H1 locs1 cells slots Q (F0 m (pc + 3) ls st1)) : W p l e R s m args below meth c H locs cells slots Q (F0 m pc ls st0) := by
  have hF := hG.free (hw σ) hA
  intro T hT X
  obtain ⟨v', st₀, t, T', L, h0, X', hL, e1, e2, ⟨⟨hv, hP1⟩, hz, hk⟩, st⟩ := hr T hT X
  cases hv
  rw [h0] at hz hk
  subst hst
  have hS := hG.2.2
  obtain ⟨t2, a1, b1⟩ := kk T'.heap (locs ++ L) (j_join (hw σ) (hw σ') hG (by rw [e1]; exact hP1) (fun q h1 h2 => by rw [e1]; exact hk q h1 h2)
    ⟨Nat.le_trans hS.1 (by rw [e1]; exact hz), fun q h1 h2 => by rw [e1, hk q (Nat.lt_of_lt_of_le h1 hS.1) (fun z => h2 (hF q z))]; exact hS.2.1 q h1 h2, fun q hq => by
      rcases List.mem_append.mp hq with h | h
      · exact hS.2.2 q h
      · exact hF _ (hL q h)⟩) T' rfl X'
  exact ⟨t2, st t2 a1, b1⟩
/-- a virtual call of a method with a contract over one of the worlds -/
theorem jw_V (hw : ∀ σ, (w σ).map Prod.fst = as) (E : CallFix p m c cc nL s args TT own) (hK : KK D cy s) (hA : ∀ q, s.heap.size ≤ q → A q) (hG : KG D A s H locs (w σ ++ wr)) (hM : Ctr l D w as cy y bytes maxL rt fr lo (.ref b :: As) σ v σ') (h1 : Cond.methodLink own idx y ∈ TT) (hI : MV y bytes maxL rt C n)
    (hR : fr + 1 ≤ R.frames ∧ 8 + (maxL + 11) + lo ≤ R.locals ∧ cells ≤ R.cells ∧ slots ≤ R.slots) (ci q0 : Nat) {T : u_T} {N : Nat} {fs : List Value} (hc : vwCl[ci]? = some (C, T, N)) (he : (w σ)[q0]? = some (b, .inr (ci, fs))) (hn : As.length = n) (hsz : ls.size = nL) (hst0 : st0 = As.reverse ++ .ref b :: rest) (hW : (rest.map fun v => v.category).sum ≤ 8) (hdg : decode cc pc = .ok (.invokevirtual idx, 3)) (hst : v.toList ++ rest = st1)
    (kk : ∀ (H1 : Heap) (locs1 : List Loc), KG D A s H1 locs1 (w σ' ++ wr) → W p l e R s m args below meth c H1 locs1 cells slots Q (F0 m (pc + 3) ls st1)) : W p l e R s m args below meth c H locs cells slots Q (F0 m pc ls st0) := by
  have hT : GoodIn TT (wsV own idx C y (.code y bytes maxL rt :: TT)) := fun z hz => by
    unfold wsV at hz
    rcases List.mem_append.mp hz with h | h
    · simp only [List.mem_cons, List.not_mem_nil, or_false] at h
      rcases h with rfl | rfl | rfl | rfl
      · exact ⟨h1, TT_good h1⟩
      · exact ⟨hI.1.1, TT_good hI.1.1⟩
      · exact ⟨hI.1.2.1, TT_good hI.1.2.1⟩
      · exact ⟨hI.1.2.2.1, TT_good hI.1.2.2.1⟩
    · exact TT_call hI.1.2.2.2 z h
  obtain ⟨hP, hD⟩ := hG.left
  exact j_af hw (va_runV (As := As) (rest := rest) (b := b) (rm := { frames := fr, cells := 0, slots := 0, locals := lo }) E (hM H.size) (cwV n E.2.2.2.2 hT rfl rfl rfl hI.2 ⟨hR.1, hR.2.1⟩) ⟨Pw_blind, va_recv hK.1 hP hc he, fun U hU hW => ⟨rfl, by rw [hU], by rw [hU]; exact hP, hK.moved hW, hD.weaken (fun _ _ _ _ => trivial)⟩⟩ rfl hn hsz hst0 (lv_room hW) hdg ⟨hR.2.2.1, hR.2.2.2⟩) hA hG hst kk
end JN
/-- the law's own row of one long -/
def ow (cl : ClassId) (o : Nat) (f : Nat → Int64) : va_W := [(o, .inl (cl, 1, .inr (.inl f)))]
/-- a helper of the law: it calls the class, and says whether that threw -/
def HC (l : Launch) (D : va_G) (ad : Nat → Nat) (cy cl : ClassId) (o N0 : Nat) (sa : Nat → Nat) (y : MethodName) (cc : ByteArray) (hh : List (Nat × Nat × Nat × Nat)) (fr lo : Nat) (x : Int32) (σ : SS) (f : Nat → Int64) (k : Int32) (σ' : SS) (f' : Nat → Int64) : Prop :=
  ∀ sz : Nat, Met l y (.codeWith y cc 4 (some .int) hh :: TT) { frames := fr, cells := 1, slots := 6, locals := lo } (va_Pc [.ref (ad 0), .int x, .ref o] (fun U => U.heap.size = sz ∧ va_P D vwCl (cw ad cy σ ++ ow cl o f) U.heap ∧ (KK D cy U ∧ va_K D vwCl [(cl, .long)] U) ∧ va_D (fun q => N0 ≤ q) (cw ad cy σ ++ ow cl o f) ∧ N0 ≤ sz ∧ XS N0 sa U U.heap))
    (va_Qi (fun (r : Int32) (_ : Unit) => r = k) (fun _ t => va_P D vwCl (cw ad cy σ' ++ ow cl o f') t.heap) (cA (cas ad ++ [o]) sz)) 1 6 (cA (cas ad ++ [o]) sz)
theorem HC.of {l : Launch} {D : va_G} {ad : Nat → Nat} {cy cl : ClassId} {o N0 : Nat} {sa : Nat → Nat} {y : MethodName} {cc : ByteArray} {hh : List (Nat × Nat × Nat × Nat)} {fr lo : Nat} {x : Int32} {σ : SS} {f : Nat → Int64} {k : Int32} {σ' : SS} {f' : Nat → Int64} (hy : plainName y.cls = true)
    (body : ∀ (p : Program) (e : Env) (s : State) (m : MethodId) (args : Array Value) (below : List Frame) (meth : Method) (c : Code) (ls : Array Slot), CallFix p m c cc 4 s args TT y.cls → meth.sig.returnType = some .int → meth.locks = false → c.exceptionTable.toList = tableOf hh → lv_has ls 4 [(0, .ref (ad 0)), (1, .int x), (2, .ref o)] → KK D cy s → va_K D vwCl [(cl, .long)] s → KG D (cA (cas ad ++ [o]) s.heap.size) s s.heap [] (cw ad cy σ ++ ow cl o f) → (N0 ≤ s.heap.size ∧ (∀ a ∈ cas ad, N0 ≤ a) ∧ N0 ≤ o) → XS N0 sa s s.heap →
      W p l e { frames := fr, cells := 1, slots := 6, locals := lo } s m args below meth c s.heap [] 0 0 (MQ below (va_Qi (fun (r : Int32) (_ : Unit) => r = k) (fun _ t => va_P D vwCl (cw ad cy σ' ++ ow cl o f') t.heap) (cA (cas ad ++ [o]) s.heap.size)) args s 1 6 (cA (cas ad ++ [o]) s.heap.size)) (F0 m 0 ls [])) : HC l D ad cy cl o N0 sa y cc hh fr lo x σ f k σ' f' := by
  intro sz
  refine va_MetW (cc := cc) (maxL := 4) (ret := some .int) (hh := hh) hy rfl ?_
  intro p e s m args below meth c s₁ B hml hv
  obtain ⟨rfl, hsz, hP, hK, hD0, hN, hX⟩ := hv
  have hts := atoms_spec (ws := .codeWith y cc 4 (some .int) hh :: TT) B.pre
  have hown : s.vm.findClass y.cls = some m.cls := findClass_of_methodNamed B.named
  subst hsz
  have hl := lv_entry ([.ref (ad 0), .int x, .ref o]) (n := 4) (Nat.le_of_ble_eq_true rfl)
  rw [lg_entry_eq]
  have has : (cw ad cy σ ++ ow cl o f).map Prod.fst = cas ad ++ [o] := rfl
  obtain ⟨d1, d2⟩ := vaD_nd.mp hD0
  have hge : ∀ a ∈ cas ad ++ [o], N0 ≤ a := fun a ha => by
    rw [← has] at ha
    obtain ⟨z, z1, z2⟩ := List.mem_map.mp ha
    rw [← z2]; exact d2 z z1
  exact body p e s m _ below meth c _ ⟨B.exec, B.bytes, hml, hown, fun w h => hts w (List.mem_cons_of_mem _ h)⟩ B.returns B.notSynchronized (vx_table (x := y) B (hts _ List.mem_cons_self)) hl hK.1 hK.2 ⟨hP, vaD_nd.mpr ⟨d1, fun q hq => Or.inl (by rw [← has]; exact List.mem_map_of_mem hq)⟩, va_S.rf⟩ ⟨hN, fun a ha => hge a (List.mem_append_left _ ha), hge o (List.mem_append_right _ List.mem_cons_self)⟩ hX
