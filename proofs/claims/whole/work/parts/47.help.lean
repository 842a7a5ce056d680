/-! the law's two helpers -/
def hhS : List (Nat × Nat × Nat × Nat) := [(0, 8, 11, 13), (0, 8, 14, 15)]
def hhY : List (Nat × Nat × Nat × Nat) := [(0, 9, 12, 15)]
section HP
variable {p : Program} {l : Launch} {e : Env} {R : Room} {s : State} {m : MethodId} {args : Array Value} {below : List Frame} {meth : Method} {c : Code} {H : Heap} {locs : List Loc} {cells slots : Nat} {Q : State → Prop}
variable {cc bytes : ByteArray} {pc nL idx fr lo : Nat} {ls : Array Slot} {rest st0 As : List Value} {D : va_G} {A : Nat → Prop} {ad : Nat → Nat} {cy : ClassId} {N0 : Nat} {sa : Nat → Nat} {wr : va_W} {σ σ' : SS} {rt : Option FieldType} {own : String} {y : MethodName} {x : Int32} {E0 : String}
/-- a call of the class that throws: long, or int -/
theorem h_run {Qf : (Nat → Prop) → Array Value → State → Outcome → State → Prop} (E : CallFix p m c cc nL s args TT own) (hK : KK D cy s) (hG : KG D A s H locs (cw ad cy σ ++ wr)) (hle : ∀ q, s.heap.size ≤ q → N0 ≤ q) (hA0 : ∀ q, A q → N0 ≤ q) (hN : N0 ≤ s.heap.size ∧ ∀ a ∈ cas ad, N0 ≤ a) (hX : XS N0 sa s s.heap) (hM : CtX l D ad cy N0 sa y bytes rt fr lo [.ref (ad 0), .int x] σ E0 σ' Qf) (h1 : Cond.methodLink own idx y ∈ TT) (hI : MV y bytes 2 rt RX11 1)
    (hR : fr + 1 ≤ R.frames ∧ 8 + (2 + 11) + lo ≤ R.locals ∧ cells + 1 ≤ R.cells ∧ slots + 6 ≤ R.slots) (hsz : ls.size = nL) (hst0 : st0 = .int x :: .ref (ad 0) :: rest) (hW : (rest.map fun v => v.category).sum ≤ 8) (hdg : decode cc pc = .ok (.invokevirtual idx, 3)) :
    vx_Run p l e R s m args below meth c H locs cells slots 1 6 (F0 m pc ls st0) rest (Qf (cA (cas ad) H.size) [Value.ref (ad 0), .int x].toArray) (Xx D ad cy H.size E0 σ') (cA (cas ad) H.size) := by
  have hT : GoodIn TT (wsV own idx RX11 y (.code y bytes 2 rt :: TT)) := fun z hz => by
    unfold wsV at hz
    rcases List.mem_append.mp hz with h | h
    · simp only [List.mem_cons, List.not_mem_nil, or_false] at h
      rcases h with rfl | rfl | rfl | rfl
      · exact ⟨h1, TT_good h1⟩
      · exact ⟨hI.1.1, TT_good hI.1.1⟩
      · exact ⟨hI.1.2.1, TT_good hI.1.2.1⟩
      · exact ⟨hI.1.2.2.1, TT_good hI.1.2.2.1⟩
    · exact TT_call hI.1.2.2.2 z h
  obtain ⟨hP, hD⟩ := hG.left
  have hS := hG.2.2
  have hXH : XS N0 sa s H := hX.kept (fun a h2 h3 => hS.2.1 a h2 (fun z => h3 (hA0 a z)))
  exact vx_runV (As := [.int x]) (rest := rest) (b := ad 0) (rm := { frames := fr, cells := 1, slots := 6, locals := lo }) E (hM H.size) (cwV 1 E.2.2.2.2 hT rfl rfl rfl hI.2 ⟨hR.1, hR.2.1⟩)
    ⟨fun a U g mk q => by
      obtain ⟨q0, ⟨q1, qP, qK, qD⟩, q2, q3⟩ := q
      exact ⟨q0, ⟨q1, qP, qK.calling, qD⟩, q2, q3.calling⟩, va_recv (ci := 12) (q0 := 0) hK.1 hP rfl rfl, fun U hU hW => ⟨rfl, ⟨by rw [hU], by rw [hU]; exact hP, hK.moved hW, hD.weaken (fun _ _ _ _ => trivial)⟩, ⟨Nat.le_trans hN.1 hS.1, hN.2⟩, by rw [hU]; exact hXH.warm hW⟩⟩ rfl rfl hsz hst0 (lv_room hW) hdg ⟨hR.2.2.1, hR.2.2.2⟩
end HP
set_option maxHeartbeats 4000000 in
set_option maxRecDepth 100000 in
/-- share: an answer -/
theorem h_share_0 {l : Launch} {D : va_G} {ad : Nat → Nat} {cy cl : ClassId} {o N0 : Nat} {sa : Nat → Nat} {σ : SS} {x : Int32} {b : Int64} {f : Nat → Int64} (hf : f_c_X11_share σ x = some (b, σ)) : HC l D ad cy cl o N0 sa yL_share cL_share hhS 8 200 x σ f 0 σ (vp_updL f 0 b) := by
  refine HC.of rfl (fun p e s m args below meth c ls E hr hlk htab hl hK hKl hG hN hX => ?_)
  have hA : ∀ q, s.heap.size ≤ q → cA (cas ad ++ [o]) s.heap.size q := fun q hq => Or.inr hq
  refine lv_aload_n E.1 E.2.1 dL_share_0 rfl (lv_at hl 2 rfl) ?_
  refine lv_iconst (v := (0 : Int32)) E.1 E.2.1 dL_share_1 (by decide) ?_
  refine lv_aload_n E.1 E.2.1 dL_share_2 rfl (lv_at hl 0 rfl) ?_
  refine lv_iload_n E.1 E.2.1 dL_share_3 rfl (lv_at hl 1 rfl) ?_
  refine jw_V (w := cw ad cy) (As := [.int x]) (rest := [.int 0, .ref o]) (st1 := [.long b, .int 0, .ref o]) (cw_as ad cy) E hK hA hG (c_c_X11_share hf) Wd_724 mi_X11_share ⟨Nat.le_of_ble_eq_true rfl, Nat.le_of_ble_eq_true rfl, Nat.zero_le _, Nat.zero_le _⟩ 12 0 rfl rfl rfl hl.1 rfl (Nat.le_of_ble_eq_true rfl) dL_share_4 rfl (fun H locs hG => ?_)
  refine va_last E.1 E.2.1 hKl hG.1 hG.2.1 hG.2.2 39 0 (cA := cl) (n := 1) (f := f) (a := o) rfl rfl (show ¬ ((0 : Int32) < 0 ∨ 1 ≤ (0 : Int32).toNatClampNeg) by decide) dL_share_7 (fun H locs hP hD hS => ?_)
  refine lv_goto (tgt := 17) E.1 E.2.1 dL_share_8 (by decide) ?_
  refine lv_iconst (v := (0 : Int32)) E.1 E.2.1 dL_share_17 (by decide) ?_
  refine W.widen (k := 1) (n := 6) (by decide) (by decide) ?_
  exact W.iret E.1 E.2.1 hr (fun t ht _ => ⟨⟨0, (), rfl, rfl, by show va_P D vwCl _ t.heap; rw [ht]; exact hP⟩, hS.F ht⟩) hS.2.2 dL_share_18 hlk
set_option maxHeartbeats 4000000 in
set_option maxRecDepth 100000 in
/-- share: no such sign -/
theorem h_share_2 {l : Launch} {D : va_G} {ad : Nat → Nat} {cy cl : ClassId} {o N0 : Nat} {sa : Nat → Nat} {σ : SS} {x : Int32} {f : Nat → Int64} (hs : l.stackTraces = false) (hw : wi x 0 15 = 0) : HC l D ad cy cl o N0 sa yL_share cL_share hhS 8 200 x σ f 2 σ f := by
  refine HC.of rfl (fun p e s m args below meth c ls E hr hlk htab hl hK hKl hG hN hX => ?_)
  have hA : ∀ q, s.heap.size ≤ q → cA (cas ad ++ [o]) s.heap.size q := fun q hq => Or.inr hq
  have hA0 : ∀ q, cA (cas ad ++ [o]) s.heap.size q → N0 ≤ q := fun q hq => hq.elim (fun z => (List.mem_append.mp z).elim (hN.2.1 q) (fun z => by rw [List.mem_singleton.mp z]; exact hN.2.2)) (fun z => Nat.le_trans hN.1 z)
  refine lv_aload_n E.1 E.2.1 dL_share_0 rfl (lv_at hl 2 rfl) ?_
  refine lv_iconst (v := (0 : Int32)) E.1 E.2.1 dL_share_1 (by decide) ?_
  refine lv_aload_n E.1 E.2.1 dL_share_2 rfl (lv_at hl 0 rfl) ?_
  refine lv_iload_n E.1 E.2.1 dL_share_3 rfl (lv_at hl 1 rfl) ?_
  have hF := hG.free (cw_as ad cy σ) hA
  refine vx_calll (post := fun (_ : Int64) (_ : Unit) => False) (B := fun _ _ => True) (h_run (Qf := fun A => va_Ql (fun (_ : Int64) (_ : Unit) => False) (fun _ _ => True) A) (rest := [.int 0, .ref o]) E hK hG (fun q hq => Nat.le_trans hN.1 hq) hA0 ⟨hN.1, hN.2.1⟩ hX (x_share_a hs hw) Wd_724 mi_X11_share ⟨Nat.le_of_ble_eq_true rfl, Nat.le_of_ble_eq_true rfl, Nat.le_of_ble_eq_true rfl, Nat.le_of_ble_eq_true rfl⟩ hl.1 rfl (Nat.le_of_ble_eq_true rfl) dL_share_4) hG.2.2 (fun q _ h => hF q h) hF (fun q _ h => hF q h) (fun E9 ce q9 u t H1 locs1 ht hvm _ hB hz hk hS1 hce hcv hcl => ?_) (fun r u t H1 locs1 ht hvm hp => hp.elim)
  obtain ⟨rfl, hP1⟩ := hB
  rw [ht] at hP1
  have hG := j_join (cw_as ad cy σ) (cw_as ad cy σ) hG hP1 hk hS1
  refine vx_catch (name := RJx00060) E.2.2.2.1 [⟨0, 8, 11, 13⟩] ⟨0, 8, 14, 15⟩ [] htab (fun z hz => ?_) rfl (by decide) (E.2.2.2.2 _ Wd_705) (va_Nw.use rfl (hX.1 _ (List.mem_of_getElem? (i := 4) rfl))) hce hcv hcl ?_
  · rw [List.mem_singleton.mp hz]
    exact Or.inr ⟨by decide, xAr, E.2.2.2.2 _ Wd_635, hX.2.1⟩
  · refine lv_astore_n (lv' := [(3, .ref q9), (0, .ref (ad 0)), (1, .int x), (2, .ref o)]) E.1 E.2.1 dL_share_14 rfl hl (by decide) rfl (fun ls hl => ?_)
    refine lv_iconst (v := (2 : Int32)) E.1 E.2.1 dL_share_15 (by decide) ?_
    exact W.iret E.1 E.2.1 hr (fun t ht _ => ⟨⟨2, (), rfl, rfl, by show va_P D vwCl _ t.heap; rw [ht]; exact hG.1⟩, hG.2.2.F ht⟩) hG.2.2.2.2 dL_share_16 hlk
set_option maxHeartbeats 4000000 in
set_option maxRecDepth 100000 in
/-- share: the sum is 0 -/
theorem h_share_1 {l : Launch} {D : va_G} {ad : Nat → Nat} {cy cl : ClassId} {o N0 : Nat} {sa : Nat → Nat} {σ : SS} {x : Int32} {f : Nat → Int64} (hs : l.stackTraces = false) (hw : ¬ wi x 0 15 = 0) (h0 : σ.1 2 = 0) : HC l D ad cy cl o N0 sa yL_share cL_share hhS 8 200 x σ f 1 σ f := by
  refine HC.of rfl (fun p e s m args below meth c ls E hr hlk htab hl hK hKl hG hN hX => ?_)
  have hA : ∀ q, s.heap.size ≤ q → cA (cas ad ++ [o]) s.heap.size q := fun q hq => Or.inr hq
  have hA0 : ∀ q, cA (cas ad ++ [o]) s.heap.size q → N0 ≤ q := fun q hq => hq.elim (fun z => (List.mem_append.mp z).elim (hN.2.1 q) (fun z => by rw [List.mem_singleton.mp z]; exact hN.2.2)) (fun z => Nat.le_trans hN.1 z)
  refine lv_aload_n E.1 E.2.1 dL_share_0 rfl (lv_at hl 2 rfl) ?_
  refine lv_iconst (v := (0 : Int32)) E.1 E.2.1 dL_share_1 (by decide) ?_
  refine lv_aload_n E.1 E.2.1 dL_share_2 rfl (lv_at hl 0 rfl) ?_
  refine lv_iload_n E.1 E.2.1 dL_share_3 rfl (lv_at hl 1 rfl) ?_
  have hF := hG.free (cw_as ad cy σ) hA
  refine vx_calll (post := fun (_ : Int64) (_ : Unit) => False) (B := fun _ _ => True) (h_run (Qf := fun A => va_Ql (fun (_ : Int64) (_ : Unit) => False) (fun _ _ => True) A) (rest := [.int 0, .ref o]) E hK hG (fun q hq => Nat.le_trans hN.1 hq) hA0 ⟨hN.1, hN.2.1⟩ hX (x_share_b hs hw h0) Wd_724 mi_X11_share ⟨Nat.le_of_ble_eq_true rfl, Nat.le_of_ble_eq_true rfl, Nat.le_of_ble_eq_true rfl, Nat.le_of_ble_eq_true rfl⟩ hl.1 rfl (Nat.le_of_ble_eq_true rfl) dL_share_4) hG.2.2 (fun q _ h => hF q h) hF (fun q _ h => hF q h) (fun E9 ce q9 u t H1 locs1 ht hvm _ hB hz hk hS1 hce hcv hcl => ?_) (fun r u t H1 locs1 ht hvm hp => hp.elim)
  obtain ⟨rfl, hP1⟩ := hB
  rw [ht] at hP1
  have hG := j_join (cw_as ad cy σ) (cw_as ad cy σ) hG hP1 hk hS1
  refine vx_catch (name := xAr) E.2.2.2.1 [] ⟨0, 8, 11, 13⟩ [⟨0, 8, 14, 15⟩] htab (fun z hz => by cases hz) rfl (by decide) (E.2.2.2.2 _ Wd_635) (va_Nw.use rfl (hX.1 _ (List.mem_of_getElem? (i := 5) rfl))) hce hcv hcl ?_
  refine lv_astore_n (lv' := [(3, .ref q9), (0, .ref (ad 0)), (1, .int x), (2, .ref o)]) E.1 E.2.1 dL_share_11 rfl hl (by decide) rfl (fun ls hl => ?_)
  refine lv_iconst (v := (1 : Int32)) E.1 E.2.1 dL_share_12 (by decide) ?_
  exact W.iret E.1 E.2.1 hr (fun t ht _ => ⟨⟨1, (), rfl, rfl, by show va_P D vwCl _ t.heap; rw [ht]; exact hG.1⟩, hG.2.2.F ht⟩) hG.2.2.2.2 dL_share_13 hlk
set_option maxHeartbeats 4000000 in
set_option maxRecDepth 100000 in
/-- symbol: an answer -/
theorem h_symbol_0 {l : Launch} {D : va_G} {ad : Nat → Nat} {cy cl : ClassId} {o N0 : Nat} {sa : Nat → Nat} {σ σ' : SS} {x : Int32} {b : Int32} {f : Nat → Int64} (hf : f_c_X11_symbol σ x = some (b, σ')) : HC l D ad cy cl o N0 sa yL_symbol cL_symbol hhY 8 200 x σ f 0 σ' (vp_updL f 0 b.toInt64) := by
  refine HC.of rfl (fun p e s m args below meth c ls E hr hlk htab hl hK hKl hG hN hX => ?_)
  have hA : ∀ q, s.heap.size ≤ q → cA (cas ad ++ [o]) s.heap.size q := fun q hq => Or.inr hq
  refine lv_aload_n E.1 E.2.1 dL_symbol_0 rfl (lv_at hl 2 rfl) ?_
  refine lv_iconst (v := (0 : Int32)) E.1 E.2.1 dL_symbol_1 (by decide) ?_
  refine lv_aload_n E.1 E.2.1 dL_symbol_2 rfl (lv_at hl 0 rfl) ?_
  refine lv_iload_n E.1 E.2.1 dL_symbol_3 rfl (lv_at hl 1 rfl) ?_
  refine jw_V (w := cw ad cy) (As := [.int x]) (rest := [.int 0, .ref o]) (st1 := [.int b, .int 0, .ref o]) (cw_as ad cy) E hK hA hG (c_c_X11_symbol hf) Wd_738 mi_X11_symbol ⟨Nat.le_of_ble_eq_true rfl, Nat.le_of_ble_eq_true rfl, Nat.zero_le _, Nat.zero_le _⟩ 12 0 rfl rfl rfl hl.1 rfl (Nat.le_of_ble_eq_true rfl) dL_symbol_4 rfl (fun H locs hG => ?_)
  refine lv_i2l E.1 E.2.1 dL_symbol_7 rfl ?_
  refine va_last E.1 E.2.1 hKl hG.1 hG.2.1 hG.2.2 39 0 (cA := cl) (n := 1) (f := f) (a := o) rfl rfl (show ¬ ((0 : Int32) < 0 ∨ 1 ≤ (0 : Int32).toNatClampNeg) by decide) dL_symbol_8 (fun H locs hP hD hS => ?_)
  refine lv_goto (tgt := 15) E.1 E.2.1 dL_symbol_9 (by decide) ?_
  refine lv_iconst (v := (0 : Int32)) E.1 E.2.1 dL_symbol_15 (by decide) ?_
  refine W.widen (k := 1) (n := 6) (by decide) (by decide) ?_
  exact W.iret E.1 E.2.1 hr (fun t ht _ => ⟨⟨0, (), rfl, rfl, by show va_P D vwCl _ t.heap; rw [ht]; exact hP⟩, hS.F ht⟩) hS.2.2 dL_symbol_16 hlk
set_option maxHeartbeats 4000000 in
set_option maxRecDepth 100000 in
/-- symbol: there is none -/
theorem h_symbol_1 {l : Launch} {D : va_G} {ad : Nat → Nat} {cy cl : ClassId} {o N0 : Nat} {sa : Nat → Nat} {σ σ8 : SS} {x : Int32} {f : Nat → Int64} (hs : l.stackTraces = false) (hf : f_c_X3_follow σ = some ((), σ8)) (hw : wi x 0 (σ8.1 14 - 1) = 0) : HC l D ad cy cl o N0 sa yL_symbol cL_symbol hhY 8 200 x σ f 1 σ8 f := by
  refine HC.of rfl (fun p e s m args below meth c ls E hr hlk htab hl hK hKl hG hN hX => ?_)
  have hA : ∀ q, s.heap.size ≤ q → cA (cas ad ++ [o]) s.heap.size q := fun q hq => Or.inr hq
  have hA0 : ∀ q, cA (cas ad ++ [o]) s.heap.size q → N0 ≤ q := fun q hq => hq.elim (fun z => (List.mem_append.mp z).elim (hN.2.1 q) (fun z => by rw [List.mem_singleton.mp z]; exact hN.2.2)) (fun z => Nat.le_trans hN.1 z)
  refine lv_aload_n E.1 E.2.1 dL_symbol_0 rfl (lv_at hl 2 rfl) ?_
  refine lv_iconst (v := (0 : Int32)) E.1 E.2.1 dL_symbol_1 (by decide) ?_
  refine lv_aload_n E.1 E.2.1 dL_symbol_2 rfl (lv_at hl 0 rfl) ?_
  refine lv_iload_n E.1 E.2.1 dL_symbol_3 rfl (lv_at hl 1 rfl) ?_
  have hF := hG.free (cw_as ad cy σ) hA
  refine vx_calli (post := fun (_ : Int32) (_ : Unit) => False) (B := fun _ _ => True) (h_run (Qf := fun A => va_Qi (fun (_ : Int32) (_ : Unit) => False) (fun _ _ => True) A) (rest := [.int 0, .ref o]) E hK hG (fun q hq => Nat.le_trans hN.1 hq) hA0 ⟨hN.1, hN.2.1⟩ hX (x_symbol hs hf hw) Wd_738 mi_X11_symbol ⟨Nat.le_of_ble_eq_true rfl, Nat.le_of_ble_eq_true rfl, Nat.le_of_ble_eq_true rfl, Nat.le_of_ble_eq_true rfl⟩ hl.1 rfl (Nat.le_of_ble_eq_true rfl) dL_symbol_4) hG.2.2 (fun q _ h => hF q h) hF (fun q _ h => hF q h) (fun E9 ce q9 u t H1 locs1 ht hvm _ hB hz hk hS1 hce hcv hcl => ?_) (fun r u t H1 locs1 ht hvm hp => hp.elim)
  obtain ⟨rfl, hP1⟩ := hB
  rw [ht] at hP1
  have hG := j_join (cw_as ad cy σ) (cw_as ad cy σ8) hG hP1 hk hS1
  refine vx_catch (name := RJx00060) E.2.2.2.1 [] ⟨0, 9, 12, 15⟩ [] htab (fun z hz => by cases hz) rfl (by decide) (E.2.2.2.2 _ Wd_705) (va_Nw.use rfl (hX.1 _ (List.mem_of_getElem? (i := 4) rfl))) hce hcv hcl ?_
  refine lv_astore_n (lv' := [(3, .ref q9), (0, .ref (ad 0)), (1, .int x), (2, .ref o)]) E.1 E.2.1 dL_symbol_12 rfl hl (by decide) rfl (fun ls hl => ?_)
  refine lv_iconst (v := (1 : Int32)) E.1 E.2.1 dL_symbol_13 (by decide) ?_
  exact W.iret E.1 E.2.1 hr (fun t ht _ => ⟨⟨1, (), rfl, rfl, by show va_P D vwCl _ t.heap; rw [ht]; exact hG.1⟩, hG.2.2.F ht⟩) hG.2.2.2.2 dL_symbol_14 hlk
