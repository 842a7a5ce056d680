/-! the law from its entry -/
theorem NL_in : ∀ q ∈ NL, Cond.methodLinkNest q.1 q.2.1 q.2.2.1 q.2.2.2 ∈ lw_tbl := by decide +kernel
theorem in_RJ0 : ∀ w ∈ u_ws RJ0 TJ0 2, w ∈ lw_tbl := by decide +kernel
theorem in_RJx : ∀ w ∈ u_ws RJx00060 TJx00060 6, w ∈ lw_tbl := by decide +kernel
theorem in_i : Cond.instantiable RJ0 4 ∈ lw_tbl ∧ Cond.instantiable RJx00060 6 ∈ lw_tbl ∧ Cond.instantiable RX0 9 ∈ lw_tbl ∧ Cond.instantiable RX1 2 ∈ lw_tbl ∧ Cond.instantiable RX2 5 ∈ lw_tbl ∧ Cond.instantiable RX3 7 ∈ lw_tbl ∧ Cond.instantiable RX4 1 ∈ lw_tbl ∧ Cond.instantiable RX5 7 ∈ lw_tbl ∧ Cond.instantiable RX6 5 ∈ lw_tbl ∧ Cond.instantiable RX8 4 ∈ lw_tbl ∧ Cond.instantiable RX9 2 ∈ lw_tbl ∧ Cond.instantiable RX10 5 ∈ lw_tbl ∧ Cond.instantiable RX11 8 ∈ lw_tbl ∧ Cond.instantiable RX12 25 ∈ lw_tbl := by decide +kernel
theorem in_x : Cond.declares ycut ∈ lw_tbl ∧ Cond.stringRef RX11 129 "no such sign" ∈ lw_tbl ∧ Cond.stringRef RX11 139 "/ by zero" ∈ lw_tbl ∧ Cond.stringRef RX11 198 "no such symbol" ∈ lw_tbl ∧ Cond.laysStatic Bundle.tN "UNASSIGNED_STACK" Bundle.steD ∈ lw_tbl ∧ Cond.laysStatic Bundle.tN "SUPPRESSED_SENTINEL" Bundle.listD ∈ lw_tbl ∧ Cond.initialized Bundle.tN ∈ lw_tbl := by decide +kernel
theorem in_g : Cond.exactly (.string RX11 129) "java/lang/String" ∈ flatC (Jvm.Cond.and given_1 narrow_1) ∧ Cond.exactly (.string RX11 139) "java/lang/String" ∈ flatC (Jvm.Cond.and given_1 narrow_1) ∧ Cond.exactly (.string RX11 198) "java/lang/String" ∈ flatC (Jvm.Cond.and given_1 narrow_1) ∧ Cond.isRef (.static Bundle.tN "UNASSIGNED_STACK" Bundle.steD) ∈ flatC (Jvm.Cond.and given_1 narrow_1) ∧ Cond.isRef (.static Bundle.tN "SUPPRESSED_SENTINEL" Bundle.listD) ∈ flatC (Jvm.Cond.and given_1 narrow_1) ∧ Cond.not (.castable RJx00060 xAr) ∈ flatC (Jvm.Cond.and given_1 narrow_1) := by decide +kernel
/-- a row's class -/
theorem arr_K {s : State} {args : Array Value} {ty : FieldType} (h : (Cond.arrayClass ty).before args s = true) (hty : ∀ C, ty ≠ .object C) : ∃ cA : ClassId, ArrOfT s cA ty ∧ va_RA s cA ty := by
  obtain ⟨cA, kA, comp, h1, h2, h3⟩ := Cond.arrayClass_spec h
  refine ⟨cA, fun n z => ⟨fun k h => (by cases h), kA, h2, comp, h3⟩, ?_⟩
  cases ty with
  | object C => exact absurd rfl (hty C)
  | _ => exact h1
def σz : SS := (fun _ => 0, fun _ _ => 0)
def τz : SS := (fun k => match k with
  | 9 => -1
  | _ => 0, fun _ _ => 0)
theorem rel_z : Rel σz τz 0 := Rel.start (fun _ => rfl) (fun _ _ => rfl) (fun k hk => by
  rcases (show k = 0 ∨ k = 1 ∨ k = 2 ∨ k = 3 ∨ k = 4 ∨ k = 5 ∨ k = 6 ∨ k = 7 ∨ k = 8 by omega) with rfl | rfl | rfl | rfl | rfl | rfl | rfl | rfl | rfl <;> rfl) rfl (fun _ _ => rfl)
def adf (q : Nat) (qs : Nat → Nat) : Nat → Nat := fun i => match i with
  | 0 => q
  | i + 1 => qs (i + 1)
theorem kw_c (cy : ClassId) (q : Nat) (qs : Nat → Nat) : kw_X11 cy q qs = cw (adf q qs) cy σz := rfl
theorem kw_m (cy : ClassId) (q : Nat) (qs : Nat → Nat) : kw_X12 cy q qs = mw (adf q qs) cy τz := rfl
set_option maxHeartbeats 4000000 in
set_option maxRecDepth 100000 in
theorem whole_start {p : Program} {e : Env} {s : State} {m : MethodId} {below : List Frame} {meth : Method} {c : Code} (l : Launch) (hst : l.stackTraces = false) {b L : Nat} {xs : Nat → Int32} (hL : L ≤ 2048) (C0 : lw_At p s m meth c b L xs) : W p l e room_1 s m #[Value.ref b] below meth c s.heap [] 0 0 (lw_Z below #[Value.ref b] s) (entryFrame m ([Value.ref b] : List Value).toArray 8) := by
  obtain ⟨hx, hb, hr, hml, hown, hts, hX, hbl, hlocks, hgv⟩ := id C0
  have hf := flat_of_before _ hgv
  have hT : ∀ w ∈ TT, w.before #[Value.ref b] s = true := fun w h => hts w (TT_in w h)
  have E : CallFix p m c code 8 s #[Value.ref b] TT RL := ⟨hx, hb, hml, hown, hT⟩
  have hA : ∀ q, s.heap.size ≤ q → AL s q := fun _ h => h
  obtain ⟨i0, i1, i2, i3, i4, i5, i6, i7, i8, i9, i10, i11, i12, i13⟩ := in_i
  obtain ⟨c0, d0, k0⟩ := u_known (C := RJ0) (T := TJ0) (N := 2) (n := 4) hts in_RJ0 (hts _ i0)
  obtain ⟨c1, d1, k1⟩ := u_known (C := RJx00060) (T := TJx00060) (N := 6) (n := 6) hts in_RJx (hts _ i1)
  obtain ⟨c2, d2, k2⟩ := u_known (C := RX0) (T := TX0) (N := 9) (n := 9) hT inTX0 (hts _ i2)
  obtain ⟨c3, d3, k3⟩ := u_known (C := RX1) (T := TX1) (N := 2) (n := 2) hT inTX1 (hts _ i3)
  obtain ⟨c4, d4, k4⟩ := u_known (C := RX2) (T := TX2) (N := 5) (n := 5) hT inTX2 (hts _ i4)
  obtain ⟨c5, d5, k5⟩ := u_known (C := RX3) (T := TX3) (N := 7) (n := 7) hT inTX3 (hts _ i5)
  obtain ⟨c6, d6, k6⟩ := u_known (C := RX4) (T := TX4) (N := 1) (n := 1) hT inTX4 (hts _ i6)
  obtain ⟨c7, d7, k7⟩ := u_known (C := RX5) (T := TX5) (N := 7) (n := 7) hT inTX5 (hts _ i7)
  obtain ⟨c8, d8, k8⟩ := u_known (C := RX6) (T := TX6) (N := 5) (n := 5) hT inTX6 (hts _ i8)
  obtain ⟨c9, d9, k9⟩ := u_known (C := RX8) (T := TX8) (N := 4) (n := 4) hT inTX8 (hts _ i9)
  obtain ⟨c10, d10, k10⟩ := u_known (C := RX9) (T := TX9) (N := 2) (n := 2) hT inTX9 (hts _ i10)
  obtain ⟨c11, d11, k11⟩ := u_known (C := RX10) (T := TX10) (N := 5) (n := 5) hT inTX10 (hts _ i11)
  obtain ⟨c12, d12, k12⟩ := u_known (C := RX11) (T := TX11) (N := 8) (n := 8) hT inTX11 (hts _ i12)
  obtain ⟨c13, d13, k13⟩ := u_known (C := RX12) (T := TX12) (N := 25) (n := 25) hT inTX12 (hts _ i13)
  obtain ⟨D, hKc⟩ : ∃ D : va_G, ∀ (k : Nat) (q : vw_C), vwCl[k]? = some q → u_Kn s q.1 q.2.1 q.2.2 (D.1 k) (D.2 k) := by
    refine ⟨(fun k => match k with
      | 0 => c0 | 1 => c1 | 2 => c2 | 3 => c3 | 4 => c4 | 5 => c5 | 6 => c6 | 7 => c7 | 8 => c8 | 9 => c9 | 10 => c10 | 11 => c11 | 12 => c12 | _ => c13, fun k => match k with
      | 0 => d0 | 1 => d1 | 2 => d2 | 3 => d3 | 4 => d4 | 5 => d5 | 6 => d6 | 7 => d7 | 8 => d8 | 9 => d9 | 10 => d10 | 11 => d11 | 12 => d12 | _ => d13), ?_⟩
    intro k q hq
    match k, hq with
    | 0, hq => cases hq; exact k0
    | 1, hq => cases hq; exact k1
    | 2, hq => cases hq; exact k2
    | 3, hq => cases hq; exact k3
    | 4, hq => cases hq; exact k4
    | 5, hq => cases hq; exact k5
    | 6, hq => cases hq; exact k6
    | 7, hq => cases hq; exact k7
    | 8, hq => cases hq; exact k8
    | 9, hq => cases hq; exact k9
    | 10, hq => cases hq; exact k10
    | 11, hq => cases hq; exact k11
    | 12, hq => cases hq; exact k12
    | 13, hq => cases hq; exact k13
    | k + 14, hq => cases hq
  obtain ⟨cy, y1, y2⟩ := arr_K (ty := .int) (hT _ Wd_111) (fun C h => by cases h)
  obtain ⟨cl, l1, l2⟩ := arr_K (ty := .long) (hT _ Wd_1019) (fun C h => by cases h)
  have hKi : va_K D vwCl [(cy, .int)] s := ⟨hKc, fun k q h => by
    cases k with
    | zero => cases h; exact ⟨y1, y2⟩
    | succ k => cases h⟩
  have hKl : va_K D vwCl [(cl, .long)] s := ⟨hKc, fun k q h => by
    cases k with
    | zero => cases h; exact ⟨l1, l2⟩
    | succ k => cases h⟩
  obtain ⟨x1, x2, x3, x4, x5, x6, x7⟩ := in_x
  obtain ⟨g1, g2, g3, g4, g5, g6⟩ := in_g
  have hK : KK D cy s := ⟨hKi, va_Nw.of rfl (hts _ x1)⟩
  have hN : NN s := fun q hq => va_Nw.of rfl (hts _ (NL_in q hq))
  obtain ⟨s1, _, _, _, t1, -⟩ := Cond.exactly_spec (hf _ g1)
  obtain ⟨s2, _, _, _, t2, -⟩ := Cond.exactly_spec (hf _ g2)
  obtain ⟨s3, _, _, _, t3, -⟩ := Cond.exactly_spec (hf _ g3)
  have hXS : XS s.heap.size (fun k => match k with
      | 0 => s1
      | 1 => s2
      | _ => s3) s s.heap := ⟨fun w hw => va_Nw.of (XB_on w hw) (hts w (XB_in w hw)), va_Nc.of (hf _ g6), ⟨vk_R.of (hts _ x2) t1, vk_R.of (hts _ x3) t2, vk_R.of (hts _ x4) t3⟩, vx_Zqof (hts _ x5) (hts _ x7) (hf _ g4) (fun a ha => Nat.not_le.mpr ha), vx_Zqof (hts _ x6) (hts _ x7) (hf _ g5) (fun a ha => Nat.not_le.mpr ha)⟩
  have hl := lv_entry ([.ref b]) (n := 8) (Nat.le_of_ble_eq_true rfl)
  rw [lg_entry_eq]
  generalize (lg_sl ([.ref b]) ++ List.replicate (8 - (lg_sl ([.ref b])).length) Slot.unset).toArray = ls at hl ⊢
  have hl : lv_has ls 8 [(0, .ref b)] := hl
  have hG : KG D (AL s) s s.heap [] [] := ⟨fun k q h => (by cases h), ⟨fun i j a b h => (by cases h), fun k q h => (by cases h)⟩, va_S.rf⟩
  refine k_new (ci := 12) (fs0 := [.null, .null, .null, .null, .null, .null, .null, .null]) E hKi hA hG inTX11 tyX11 tyX11_ok rfl df_X11 Wd_65 Wd_66 Wd_42 ⟨Nat.le_of_ble_eq_true rfl, Nat.le_of_ble_eq_true rfl⟩ dL_law_0 dL_law_3 (fun q1 H hG => ?_)
  refine k_af (ws := []) (x := (q1, .inr (12, [.null, .null, .null, .null, .null, .null, .null, .null]))) (W1 := kw_X11 cy q1) (k_runP (ws := []) (rest := [.ref q1]) E k_X11 mk_X11 hN Wd_67 hKi hG hl.1 rfl (Nat.le_of_ble_eq_true rfl) ⟨Nat.le_of_ble_eq_true rfl, Nat.le_of_ble_eq_true rfl, Nat.le_of_ble_eq_true rfl, Nat.le_of_ble_eq_true rfl⟩ dL_law_4) hA hG (fun u1 H locs hG => ?_)
  have hG : KG D (AL s) s H locs (cw (adf q1 u1) cy σz) := hG
  refine lv_astore_n (lv' := [(1, .ref q1), (0, .ref b)]) E.1 E.2.1 dL_law_7 rfl hl (by decide) rfl (fun ls hl => ?_)
  refine k_new (ci := 13) (fs0 := [.int 0, .int 0, .null, .int 0, .null, .int 0, .null, .null, .null, .int 0, .null, .null, .null, .int 0, .int 0, .null, .null, .null, .int 0, .null, .int 0, .null, .null, .int 0, .null]) E hKi hA hG inTX12 tyX12 tyX12_ok rfl df_X12 Wd_743 Wd_744 Wd_54 ⟨Nat.le_of_ble_eq_true rfl, Nat.le_of_ble_eq_true rfl⟩ dL_law_8 dL_law_11 (fun q2 H hG => ?_)
  refine k_af (ws := cw (adf q1 u1) cy σz) (x := (q2, .inr (13, [.int 0, .int 0, .null, .int 0, .null, .int 0, .null, .null, .null, .int 0, .null, .null, .null, .int 0, .int 0, .null, .null, .null, .int 0, .null, .int 0, .null, .null, .int 0, .null]))) (W1 := kw_X12 cy q2) (k_runP (ws := cw (adf q1 u1) cy σz) (rest := [.ref q2]) E k_X12 mk_X12 hN Wd_745 hKi hG hl.1 rfl (Nat.le_of_ble_eq_true rfl) ⟨Nat.le_of_ble_eq_true rfl, Nat.le_of_ble_eq_true rfl, Nat.le_of_ble_eq_true rfl, Nat.le_of_ble_eq_true rfl⟩ dL_law_12) hA hG (fun u2 H locs hG => ?_)
  have hG : KG D (AL s) s H locs (cw (adf q1 u1) cy σz ++ mw (adf q2 u2) cy τz) := hG
  refine lv_astore_n (lv' := [(2, .ref q2), (1, .ref q1), (0, .ref b)]) E.1 E.2.1 dL_law_15 rfl hl (by decide) rfl (fun ls hl => ?_)
  refine lv_iconst (v := (1 : Int32)) E.1 E.2.1 dL_law_16 (by decide) ?_
  refine va_newa (atype := .long) (ty := .long) (N' := 1) (a0 := (1, .inr (.inl (fun _ => 0)))) E.1 E.2.1 (hT _ Wd_1019) rfl hKl hG.1 hG.2.1 hG.2.2 hA (fun _ => rfl) (by decide) (by decide) (by decide) (Nat.le_of_ble_eq_true rfl) (Nat.le_of_ble_eq_true rfl) dL_law_17 (fun o cA H1 hK1 hP1 hD1 hS1 => ?_)
  have e1 : s.vm.findClass ("[" ++ FieldType.long.toString) = some cl := (hK1.2 0 _ rfl).2
  have e2 : s.vm.findClass ("[" ++ FieldType.long.toString) = some cA := (hK1.2 1 _ rfl).2
  have e3 : cA = cl := Option.some.inj (e2.symm.trans e1)
  subst e3
  have hG : KG D (AL s) s H1 locs (LWs (adf q1 u1) (adf q2 u2) cy cA o σz τz (fun _ => 0)) := by
    unfold LWs
    rw [← List.append_assoc]
    exact ⟨hP1, hD1, hS1⟩
  refine lv_astore_n (lv' := [(3, .ref o), (2, .ref q2), (1, .ref q1), (0, .ref b)]) E.1 E.2.1 dL_law_19 rfl hl (by decide) rfl (fun ls hl => ?_)
  refine lv_iconst (v := (0 : Int32)) E.1 E.2.1 dL_law_20 (by decide) ?_
  refine lv_istore (lv' := [(4, .int 0), (3, .ref o), (2, .ref q2), (1, .ref q1), (0, .ref b)]) E.1 E.2.1 dL_law_21 hl (by decide) rfl (fun ls hl => ?_)
  refine W.widen (k := 56 + 0) (n := 18905 + 6 * 0) (by decide) (by decide) ?_
  exact law_loop (ad := adf q1 u1) (bd := adf q2 u2) ⟨E, hK, hKl, hX, hbl, hXS, hst, hL⟩ hr hlocks (L + 1) 0 σz τz (fun _ => 0) H1 locs ls (Nat.zero_le L) (by omega) rel_z hG (lv_sub hl [4, 3, 2, 1, 0] rfl)
