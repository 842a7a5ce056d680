set_option maxHeartbeats 4000000 in
set_option maxRecDepth 100000 in
theorem c_c_X11_within {l : Launch} {D : va_G} {ad : Nat → Nat} {cy : ClassId} {σ : SS} {x0 : Int32} {x1 : Int32} {x2 : Int32} {r : Int32} {σ' : SS} (hf : f_c_X11_within σ x0 x1 x2 = some (r, σ')) : Ctr l D (cw ad cy) (cas ad) cy yX11_within cX11_within 3 (some FieldType.boolean) 0 0 [.int x0, .int x1, .int x2] σ (some (.int r)) σ' := by
  refine Ctr.of (cw_as ad cy) rfl (Nat.le_of_ble_eq_true rfl) (fun p e s m args below meth c ls E hr hlk hl hG => ?_)
  have hl : lv_has ls 3 [(0, .int x0), (1, .int x1), (2, .int x2)] := hl
  unfold f_c_X11_within at hf
  refine lv_iload_n E.1 E.2.1 dX11_within_0 rfl (lv_at hl 0 rfl) ?_
  refine lv_iload_n E.1 E.2.1 dX11_within_1 rfl (lv_at hl 1 rfl) ?_
  refine lv_icmp_lt (tgt := 14) E.1 E.2.1 dX11_within_2 (by decide) (fun hc => ?_) (fun hc => ?_)
  · replace hf := (if_pos hc).symm.trans hf
    refine lv_iconst (v := (0 : Int32)) E.1 E.2.1 dX11_within_14 (by decide) ?_
    exact r_z E hr hlk hG hf (by decide +kernel) dX11_within_15
  · replace hf := (if_neg hc).symm.trans hf
    refine lv_iload_n E.1 E.2.1 dX11_within_5 rfl (lv_at hl 0 rfl) ?_
    refine lv_iload_n E.1 E.2.1 dX11_within_6 rfl (lv_at hl 2 rfl) ?_
    refine lv_icmp_gt (tgt := 14) E.1 E.2.1 dX11_within_7 (by decide) (fun hc => ?_) (fun hc => ?_)
    · replace hf := (if_pos hc).symm.trans hf
      refine lv_iconst (v := (0 : Int32)) E.1 E.2.1 dX11_within_14 (by decide) ?_
      exact r_z E hr hlk hG hf (by decide +kernel) dX11_within_15
    · replace hf := (if_neg hc).symm.trans hf
      refine lv_iconst (v := (1 : Int32)) E.1 E.2.1 dX11_within_10 (by decide) ?_
      refine lv_goto (tgt := 15) E.1 E.2.1 dX11_within_11 (by decide) ?_
      exact r_z E hr hlk hG hf (by decide +kernel) dX11_within_15

set_option maxHeartbeats 4000000 in
set_option maxRecDepth 100000 in
theorem c_c_X11_isSign {l : Launch} {D : va_G} {ad : Nat → Nat} {cy : ClassId} {σ : SS} {x0 : Int32} {r : Int32} {σ' : SS} (hf : f_c_X11_isSign σ x0 = some (r, σ')) : Ctr l D (cw ad cy) (cas ad) cy yX11_isSign cX11_isSign 1 (some FieldType.boolean) 1 22 [.int x0] σ (some (.int r)) σ' := by
  refine Ctr.of (cw_as ad cy) rfl (Nat.le_of_ble_eq_true rfl) (fun p e s m args below meth c ls E hr hlk hl hG => ?_)
  have hl : lv_has ls 1 [(0, .int x0)] := hl
  unfold f_c_X11_isSign at hf
  refine lv_iload_n E.1 E.2.1 dX11_isSign_0 rfl (lv_at hl 0 rfl) ?_
  refine lv_iconst (v := (0 : Int32)) E.1 E.2.1 dX11_isSign_1 (by decide) ?_
  refine lv_bipush (v := (15 : Int32)) E.1 E.2.1 dX11_isSign_2 (by decide) ?_
  obtain ⟨r4, σ4, hcl, hf⟩ := bd_some hf
  refine cl_S (rest := []) (st1 := [.int r4]) (As := [.int x0, .int (0 : Int32), .int (15 : Int32)]) E hG (c_c_X11_within hcl) Wd_365 mi_X11_within ⟨Nat.le_of_ble_eq_true rfl, Nat.le_of_ble_eq_true rfl, Nat.zero_le _, Nat.zero_le _⟩ rfl hl.1 rfl (Nat.le_of_ble_eq_true rfl) dX11_isSign_4 rfl (fun H locs hG => ?_)
  obtain ⟨hz, hf⟩ := gb_some hf
  exact r_z E hr hlk hG hf hz dX11_isSign_7

set_option maxHeartbeats 4000000 in
set_option maxRecDepth 100000 in
theorem c_c_X8_append {l : Launch} {D : va_G} {ad : Nat → Nat} {cy : ClassId} {σ : SS} {x1 : Int32} {r : Unit} {σ' : SS} (hf : f_c_X8_append σ x1 = some (r, σ')) : Ctr l D (cw ad cy) (cas ad) cy yX8_append cX8_append 2 none 0 0 [.ref (ad 1), .int x1] σ (none) σ' := by
  refine Ctr.of (cw_as ad cy) rfl (Nat.le_of_ble_eq_true rfl) (fun p e s m args below meth c ls E hr hlk hl hG => ?_)
  have hl : lv_has ls 2 [(0, .ref (ad 1)), (1, .int x1)] := hl
  unfold f_c_X8_append at hf
  refine lv_aload_n E.1 E.2.1 dX8_append_0 rfl (lv_at hl 0 rfl) ?_
  refine fg_c_X8_9_1 E hG dX8_append_1 ?_
  refine lv_aload_n E.1 E.2.1 dX8_append_4 rfl (lv_at hl 0 rfl) ?_
  refine fg_c_X8_18_1 E hG dX8_append_5 ?_
  refine lv_iload_n E.1 E.2.1 dX8_append_8 rfl (lv_at hl 1 rfl) ?_
  obtain ⟨hin, hf⟩ := gd_some hf
  refine as_c_2 E hG hin dX8_append_9 (fun H locs hG => ?_)
  refine lv_aload_n E.1 E.2.1 dX8_append_10 rfl (lv_at hl 0 rfl) ?_
  refine lv_dup E.1 E.2.1 dX8_append_11 rfl ?_
  refine fg_c_X8_18_1 E hG dX8_append_12 ?_
  refine lv_iconst (v := (1 : Int32)) E.1 E.2.1 dX8_append_15 (by decide) ?_
  refine lv_iadd E.1 E.2.1 dX8_append_16 ?_
  refine fp_c_X8_18_1 E hG dX8_append_17 (fun H locs hG => ?_)
  refine lv_aload_n E.1 E.2.1 dX8_append_20 rfl (lv_at hl 0 rfl) ?_
  refine fg_c_X8_15_1 E hG dX8_append_21 ?_
  refine lv_iload_n E.1 E.2.1 dX8_append_24 rfl (lv_at hl 1 rfl) ?_
  refine lv_dup2_11 E.1 E.2.1 dX8_append_25 rfl rfl ?_
  obtain ⟨hin, hf⟩ := gd_some hf
  refine al_c_3 E hG hin dX8_append_26 ?_
  refine lv_iconst (v := (1 : Int32)) E.1 E.2.1 dX8_append_27 (by decide) ?_
  refine lv_iadd E.1 E.2.1 dX8_append_28 ?_
  obtain ⟨hin, hf⟩ := gd_some hf
  refine as_c_3 E hG hin dX8_append_29 (fun H locs hG => ?_)
  refine lv_aload_n E.1 E.2.1 dX8_append_30 rfl (lv_at hl 0 rfl) ?_
  refine lv_dup E.1 E.2.1 dX8_append_31 rfl ?_
  refine fg_c_X8_22_1 E hG dX8_append_32 ?_
  refine lv_iconst (v := (1 : Int32)) E.1 E.2.1 dX8_append_35 (by decide) ?_
  refine lv_iadd E.1 E.2.1 dX8_append_36 ?_
  refine fp_c_X8_22_1 E hG dX8_append_37 (fun H locs hG => ?_)
  exact r_v E hr hlk hG hf dX8_append_40

set_option maxHeartbeats 4000000 in
set_option maxRecDepth 100000 in
theorem c_c_X11_sign {l : Launch} {D : va_G} {ad : Nat → Nat} {cy : ClassId} {σ : SS} {x1 : Int32} {r : Int32} {σ' : SS} (hf : f_c_X11_sign σ x1 = some (r, σ')) : Ctr l D (cw ad cy) (cas ad) cy yX11_sign cX11_sign 2 (some FieldType.int) 2 42 [.ref (ad 0), .int x1] σ (some (.int r)) σ' := by
  refine Ctr.of (cw_as ad cy) rfl (Nat.le_of_ble_eq_true rfl) (fun p e s m args below meth c ls E hr hlk hl hG => ?_)
  have hl : lv_has ls 2 [(0, .ref (ad 0)), (1, .int x1)] := hl
  unfold f_c_X11_sign at hf
  refine lv_iload_n E.1 E.2.1 dX11_sign_0 rfl (lv_at hl 1 rfl) ?_
  obtain ⟨r1, σ1, hcl, hf⟩ := bd_some hf
  refine cl_S (rest := []) (st1 := [.int r1]) (As := [.int x1]) E hG (c_c_X11_isSign hcl) Wd_362 mi_X11_isSign ⟨Nat.le_of_ble_eq_true rfl, Nat.le_of_ble_eq_true rfl, Nat.zero_le _, Nat.zero_le _⟩ rfl hl.1 rfl (Nat.le_of_ble_eq_true rfl) dX11_sign_1 rfl (fun H locs hG => ?_)
  refine lv_if_ne (tgt := 9) E.1 E.2.1 dX11_sign_4 (by decide) (fun hc => ?_) (fun hc => ?_)
  · replace hf := (if_neg hc).symm.trans hf
    refine lv_aload_n E.1 E.2.1 dX11_sign_9 rfl (lv_at hl 0 rfl) ?_
    refine fg_c_X11_10_0 E hG dX11_sign_10 ?_
    refine fg_c_X11_69_1 E hG dX11_sign_13 ?_
    refine lv_sipush (v := (400 : Int32)) E.1 E.2.1 dX11_sign_16 (by decide) ?_
    refine lv_icmp_lt (tgt := 25) E.1 E.2.1 dX11_sign_19 (by decide) (fun hc => ?_) (fun hc => ?_)
    · replace hf := (if_pos hc).symm.trans hf
      refine lv_aload_n E.1 E.2.1 dX11_sign_25 rfl (lv_at hl 0 rfl) ?_
      refine fg_c_X11_10_0 E hG dX11_sign_26 ?_
      refine lv_iload_n E.1 E.2.1 dX11_sign_29 rfl (lv_at hl 1 rfl) ?_
      obtain ⟨r30, σ30, hcl, hf⟩ := bd_some hf
      refine cl_V (rest := []) (st1 := []) (As := [.int x1]) E hG (c_c_X8_append hcl) Wd_368 mi_X8_append ⟨Nat.le_of_ble_eq_true rfl, Nat.le_of_ble_eq_true rfl, Nat.zero_le _, Nat.zero_le _⟩ 9 1 rfl rfl rfl hl.1 rfl (Nat.le_of_ble_eq_true rfl) dX11_sign_30 rfl (fun H locs hG => ?_)
      refine lv_aload_n E.1 E.2.1 dX11_sign_33 rfl (lv_at hl 0 rfl) ?_
      refine fg_c_X11_10_0 E hG dX11_sign_34 ?_
      refine fg_c_X11_69_1 E hG dX11_sign_37 ?_
      exact r_i E hr hlk hG hf dX11_sign_40
    · replace hf := (if_neg hc).symm.trans hf
      refine lv_bipush (v := (-3 : Int32)) E.1 E.2.1 dX11_sign_22 (by decide) ?_
      exact r_i E hr hlk hG hf dX11_sign_24
  · replace hf := (if_pos hc).symm.trans hf
    refine lv_iconst (v := (-1 : Int32)) E.1 E.2.1 dX11_sign_7 (by decide) ?_
    exact r_i E hr hlk hG hf dX11_sign_8

set_option maxHeartbeats 4000000 in
set_option maxRecDepth 100000 in
theorem k_c_J7_fill_53178_3_5 {p : Program} {l : Launch} {e : Env} {s : State} {m : MethodId} {args : Array Value} {below : List Frame} {meth : Method} {c : Code} {D : va_G} {ad : Nat → Nat} {cy : ClassId} {r : Unit} {σ' : SS} (E : CallFix p m c cJ7_fill_53178 4 s args TT yJ7_fill_53178.cls) (hr : meth.sig.returnType = none) (hlk : meth.locks = false) (g5 : SS → Int32 → Int32 → Int32 → Option (Unit × SS)) (hg5 : ∀ (σ : SS) (x1 : Int32) (x2 : Int32) (x3 : Int32), g5 σ x1 x2 x3 = some (r, σ') → At p l e 0 0 s m args below meth c D (cw ad cy) (cas ad) cy (none) σ' 4 5 [(0, .ref (ad 3)), (1, .int x1), (2, .int x2), (3, .int x3)] [] σ) : ∀ (σ : SS) (x1 : Int32) (x2 : Int32) (x3 : Int32), f_c_J7_fill_53178_3_5 g5 σ x1 x2 x3 = some (r, σ') → At p l e 0 0 s m args below meth c D (cw ad cy) (cas ad) cy (none) σ' 4 5 [(0, .ref (ad 3)), (1, .int x1), (2, .int x2), (3, .int x3)] [] σ := by
  intro σ x1 x2 x3 hf H locs ls hG hl
  unfold f_c_J7_fill_53178_3_5 at hf
  refine lv_iload_n E.1 E.2.1 dJ7_fill_53178_5 rfl (lv_at hl 2 rfl) ?_
  refine lv_iload_n E.1 E.2.1 dJ7_fill_53178_6 rfl (lv_at hl 3 rfl) ?_
  refine lv_icmp_ge (tgt := 20) E.1 E.2.1 dJ7_fill_53178_7 (by decide) (fun hc => ?_) (fun hc => ?_)
  · replace hf := (if_pos hc).symm.trans hf
    exact r_v E hr hlk hG hf dJ7_fill_53178_20
  · replace hf := (if_neg hc).symm.trans hf
    refine lv_aload_n E.1 E.2.1 dJ7_fill_53178_10 rfl (lv_at hl 0 rfl) ?_
    refine lv_iload_n E.1 E.2.1 dJ7_fill_53178_11 rfl (lv_at hl 2 rfl) ?_
    refine lv_iload_n E.1 E.2.1 dJ7_fill_53178_12 rfl (lv_at hl 1 rfl) ?_
    obtain ⟨hin, hf⟩ := gd_some hf
    refine as_c_3 E hG hin dJ7_fill_53178_13 (fun H locs hG => ?_)
    refine lv_iinc (v := (x2 + (1 : Int32))) (lv' := [(2, .int (x2 + (1 : Int32))), (0, .ref (ad 3)), (1, .int x1), (3, .int x3)]) E.1 E.2.1 dJ7_fill_53178_14 hl (k := 2) rfl rfl (by decide) rfl (fun ls hl => ?_)
    refine lv_goto (tgt := 5) E.1 E.2.1 dJ7_fill_53178_17 (by decide) ?_
    exact hg5 _ _ _ _ hf _ _ _ hG (lv_sub hl [1, 2, 0, 3] rfl)

set_option maxHeartbeats 4000000 in
set_option maxRecDepth 100000 in
theorem c_c_J7_fill_53178_3 {l : Launch} {D : va_G} {ad : Nat → Nat} {cy : ClassId} {σ : SS} {x1 : Int32} {r : Unit} {σ' : SS} (hf : f_c_J7_fill_53178_3 σ x1 = some (r, σ')) : Ctr l D (cw ad cy) (cas ad) cy yJ7_fill_53178 cJ7_fill_53178 4 none 0 0 [.ref (ad 3), .int x1] σ (none) σ' := by
  refine Ctr.of (cw_as ad cy) rfl (Nat.le_of_ble_eq_true rfl) (fun p e s m args below meth c ls E hr hlk hl hG => ?_)
  have hl : lv_has ls 4 [(0, .ref (ad 3)), (1, .int x1)] := hl
  unfold f_c_J7_fill_53178_3 at hf
  refine lv_iconst (v := (0 : Int32)) E.1 E.2.1 dJ7_fill_53178_0 (by decide) ?_
  refine lv_istore_n (lv' := [(2, .int (0 : Int32)), (0, .ref (ad 3)), (1, .int x1)]) E.1 E.2.1 dJ7_fill_53178_1 rfl hl (by decide) rfl (fun ls hl => ?_)
  refine lv_aload_n E.1 E.2.1 dJ7_fill_53178_2 rfl (lv_at hl 1 rfl) ?_
  refine an_c_3 E hG dJ7_fill_53178_3 ?_
  refine lv_istore_n (lv' := [(3, .int (16 : Int32)), (2, .int (0 : Int32)), (0, .ref (ad 3)), (1, .int x1)]) E.1 E.2.1 dJ7_fill_53178_4 rfl hl (by decide) rfl (fun ls hl => ?_)
  exact L3_at (P := fun σ x1 x2 x3 => At p l e 0 0 s m args below meth c D (cw ad cy) (cas ad) cy (none) σ' 4 5 [(0, .ref (ad 3)), (1, .int x1), (2, .int x2), (3, .int x3)] [] σ) (fun g hg => k_c_J7_fill_53178_3_5 E hr hlk g hg) FUEL _ _ _ _ hf _ _ _ hG (lv_sub hl [2, 3, 1, 0] rfl)

set_option maxHeartbeats 4000000 in
set_option maxRecDepth 100000 in
theorem c_c_X8_clear {l : Launch} {D : va_G} {ad : Nat → Nat} {cy : ClassId} {σ : SS} {r : Unit} {σ' : SS} (hf : f_c_X8_clear σ = some (r, σ')) : Ctr l D (cw ad cy) (cas ad) cy yX8_clear cX8_clear 1 none 1 23 [.ref (ad 1)] σ (none) σ' := by
  refine Ctr.of (cw_as ad cy) rfl (Nat.le_of_ble_eq_true rfl) (fun p e s m args below meth c ls E hr hlk hl hG => ?_)
  have hl : lv_has ls 1 [(0, .ref (ad 1))] := hl
  unfold f_c_X8_clear at hf
  refine lv_aload_n E.1 E.2.1 dX8_clear_0 rfl (lv_at hl 0 rfl) ?_
  refine lv_iconst (v := (0 : Int32)) E.1 E.2.1 dX8_clear_1 (by decide) ?_
  refine fp_c_X8_18_1 E hG dX8_clear_2 (fun H locs hG => ?_)
  refine lv_aload_n E.1 E.2.1 dX8_clear_5 rfl (lv_at hl 0 rfl) ?_
  refine fg_c_X8_15_1 E hG dX8_clear_6 ?_
  refine lv_iconst (v := (0 : Int32)) E.1 E.2.1 dX8_clear_9 (by decide) ?_
  obtain ⟨r10, σ10, hcl, hf⟩ := bd_some hf
  refine cl_S (rest := []) (st1 := []) (As := [.ref (ad 3), .int (0 : Int32)]) E hG (c_c_J7_fill_53178_3 hcl) Wd_380 mi_J7_fill_53178 ⟨Nat.le_of_ble_eq_true rfl, Nat.le_of_ble_eq_true rfl, Nat.zero_le _, Nat.zero_le _⟩ rfl hl.1 rfl (Nat.le_of_ble_eq_true rfl) dX8_clear_10 rfl (fun H locs hG => ?_)
  refine lv_aload_n E.1 E.2.1 dX8_clear_13 rfl (lv_at hl 0 rfl) ?_
  refine lv_dup E.1 E.2.1 dX8_clear_14 rfl ?_
  refine fg_c_X8_22_1 E hG dX8_clear_15 ?_
  refine lv_iconst (v := (1 : Int32)) E.1 E.2.1 dX8_clear_18 (by decide) ?_
  refine lv_iadd E.1 E.2.1 dX8_clear_19 ?_
  refine fp_c_X8_22_1 E hG dX8_clear_20 (fun H locs hG => ?_)
  exact r_v E hr hlk hG hf dX8_clear_23

set_option maxHeartbeats 4000000 in
set_option maxRecDepth 100000 in
theorem c_c_X11_wipe {l : Launch} {D : va_G} {ad : Nat → Nat} {cy : ClassId} {σ : SS} {r : Int32} {σ' : SS} (hf : f_c_X11_wipe σ = some (r, σ')) : Ctr l D (cw ad cy) (cas ad) cy yX11_wipe cX11_wipe 2 (some FieldType.int) 2 43 [.ref (ad 0)] σ (some (.int r)) σ' := by
  refine Ctr.of (cw_as ad cy) rfl (Nat.le_of_ble_eq_true rfl) (fun p e s m args below meth c ls E hr hlk hl hG => ?_)
  have hl : lv_has ls 2 [(0, .ref (ad 0))] := hl
  unfold f_c_X11_wipe at hf
  refine lv_aload_n E.1 E.2.1 dX11_wipe_0 rfl (lv_at hl 0 rfl) ?_
  refine fg_c_X11_10_0 E hG dX11_wipe_1 ?_
  refine fg_c_X11_69_1 E hG dX11_wipe_4 ?_
  refine lv_istore_n (lv' := [(1, .int (σ.1 0)), (0, .ref (ad 0))]) E.1 E.2.1 dX11_wipe_7 rfl hl (by decide) rfl (fun ls hl => ?_)
  refine lv_aload_n E.1 E.2.1 dX11_wipe_8 rfl (lv_at hl 1 rfl) ?_
  refine fg_c_X11_10_0 E hG dX11_wipe_9 ?_
  obtain ⟨r12, σ12, hcl, hf⟩ := bd_some hf
  refine cl_V (rest := []) (st1 := []) (As := []) E hG (c_c_X8_clear hcl) Wd_376 mi_X8_clear ⟨Nat.le_of_ble_eq_true rfl, Nat.le_of_ble_eq_true rfl, Nat.zero_le _, Nat.zero_le _⟩ 9 1 rfl rfl rfl hl.1 rfl (Nat.le_of_ble_eq_true rfl) dX11_wipe_12 rfl (fun H locs hG => ?_)
  refine lv_iload_n E.1 E.2.1 dX11_wipe_15 rfl (lv_at hl 0 rfl) ?_
  exact r_i E hr hlk hG hf dX11_wipe_16

set_option maxHeartbeats 4000000 in
set_option maxRecDepth 100000 in
theorem c_c_X0_setOrder {l : Launch} {D : va_G} {ad : Nat → Nat} {cy : ClassId} {σ : SS} {x1 : Int32} {r : Unit} {σ' : SS} (hf : f_c_X0_setOrder σ x1 = some (r, σ')) : Ctr l D (cw ad cy) (cas ad) cy yX0_setOrder cX0_setOrder 2 none 0 0 [.ref (ad 6), .int x1] σ (none) σ' := by
  refine Ctr.of (cw_as ad cy) rfl (Nat.le_of_ble_eq_true rfl) (fun p e s m args below meth c ls E hr hlk hl hG => ?_)
  have hl : lv_has ls 2 [(0, .ref (ad 6)), (1, .int x1)] := hl
  unfold f_c_X0_setOrder at hf
  refine lv_iload_n E.1 E.2.1 dX0_setOrder_0 rfl (lv_at hl 1 rfl) ?_
  refine lv_aload_n E.1 E.2.1 dX0_setOrder_1 rfl (lv_at hl 0 rfl) ?_
  refine fg_c_X0_27_6 E hG dX0_setOrder_2 ?_
  refine lv_icmp_eq (tgt := 18) E.1 E.2.1 dX0_setOrder_5 (by decide) (fun hc => ?_) (fun hc => ?_)
  · replace hf := (if_pos hc).symm.trans hf
    exact r_v E hr hlk hG hf dX0_setOrder_18
  · replace hf := (if_neg hc).symm.trans hf
    refine lv_aload_n E.1 E.2.1 dX0_setOrder_8 rfl (lv_at hl 0 rfl) ?_
    refine lv_iload_n E.1 E.2.1 dX0_setOrder_9 rfl (lv_at hl 1 rfl) ?_
    refine fp_c_X0_27_6 E hG dX0_setOrder_10 (fun H locs hG => ?_)
    refine lv_aload_n E.1 E.2.1 dX0_setOrder_13 rfl (lv_at hl 0 rfl) ?_
    refine lv_iconst (v := (-1 : Int32)) E.1 E.2.1 dX0_setOrder_14 (by decide) ?_
    refine fp_c_X0_31_6 E hG dX0_setOrder_15 (fun H locs hG => ?_)
    exact r_v E hr hlk hG hf dX0_setOrder_18

set_option maxHeartbeats 4000000 in
set_option maxRecDepth 100000 in
theorem k_c_X0_codeBefore_10 {p : Program} {l : Launch} {e : Env} {s : State} {m : MethodId} {args : Array Value} {below : List Frame} {meth : Method} {c : Code} {D : va_G} {ad : Nat → Nat} {cy : ClassId} {r : Int32} {σ' : SS} (E : CallFix p m c cX0_codeBefore 5 s args TT yX0_codeBefore.cls) (hr : meth.sig.returnType = (some FieldType.int)) (hlk : meth.locks = false) (g10 : SS → Int32 → Int32 → Int32 → Option (Int32 × SS)) (hg10 : ∀ (σ : SS) (x2 : Int32) (x3 : Int32) (x4 : Int32), g10 σ x2 x3 x4 = some (r, σ') → At p l e 0 0 s m args below meth c D (cw ad cy) (cas ad) cy (some (.int r)) σ' 5 10 [(1, .ref (ad 1)), (2, .int x2), (3, .int x3), (4, .int x4)] [] σ) : ∀ (σ : SS) (x2 : Int32) (x3 : Int32) (x4 : Int32), f_c_X0_codeBefore_10 g10 σ x2 x3 x4 = some (r, σ') → At p l e 0 0 s m args below meth c D (cw ad cy) (cas ad) cy (some (.int r)) σ' 5 10 [(1, .ref (ad 1)), (2, .int x2), (3, .int x3), (4, .int x4)] [] σ := by
  intro σ x2 x3 x4 hf H locs ls hG hl
  unfold f_c_X0_codeBefore_10 at hf
  refine lv_iload E.1 E.2.1 dX0_codeBefore_10 (lv_at hl 3 rfl) ?_
  refine lv_iload_n E.1 E.2.1 dX0_codeBefore_12 rfl (lv_at hl 1 rfl) ?_
  refine lv_icmp_ge (tgt := 34) E.1 E.2.1 dX0_codeBefore_13 (by decide) (fun hc => ?_) (fun hc => ?_)
  · replace hf := (if_pos hc).symm.trans hf
    refine lv_iload_n E.1 E.2.1 dX0_codeBefore_34 rfl (lv_at hl 2 rfl) ?_
    exact r_i E hr hlk hG hf dX0_codeBefore_35
  · replace hf := (if_neg hc).symm.trans hf
    refine lv_iload_n E.1 E.2.1 dX0_codeBefore_16 rfl (lv_at hl 2 rfl) ?_
    refine lv_iconst (v := (4 : Int32)) E.1 E.2.1 dX0_codeBefore_17 (by decide) ?_
    refine lv_ishl E.1 E.2.1 dX0_codeBefore_18 ?_
    refine lv_aload_n E.1 E.2.1 dX0_codeBefore_19 rfl (lv_at hl 0 rfl) ?_
    refine fg_c_X0_56_1 E hG dX0_codeBefore_20 ?_
    refine lv_iload E.1 E.2.1 dX0_codeBefore_23 (lv_at hl 3 rfl) ?_
    obtain ⟨hin, hf⟩ := gd_some hf
    refine al_c_2 E hG hin dX0_codeBefore_25 ?_
    refine lv_ior E.1 E.2.1 dX0_codeBefore_26 ?_
    refine lv_istore_n (lv' := [(3, .int ((x3 <<< ((4 : Int32) &&& 31)) ||| (σ.2 0 (Int32.toNatClampNeg x4)))), (1, .ref (ad 1)), (2, .int x2), (4, .int x4)]) E.1 E.2.1 dX0_codeBefore_27 rfl hl (by decide) rfl (fun ls hl => ?_)
    refine lv_iinc (v := (x4 + (1 : Int32))) (lv' := [(4, .int (x4 + (1 : Int32))), (3, .int ((x3 <<< ((4 : Int32) &&& 31)) ||| (σ.2 0 (Int32.toNatClampNeg x4)))), (1, .ref (ad 1)), (2, .int x2)]) E.1 E.2.1 dX0_codeBefore_28 hl (k := 3) rfl rfl (by decide) rfl (fun ls hl => ?_)
    refine lv_goto (tgt := 10) E.1 E.2.1 dX0_codeBefore_31 (by decide) ?_
    exact hg10 _ _ _ _ hf _ _ _ hG (lv_sub hl [2, 3, 1, 0] rfl)

set_option maxHeartbeats 4000000 in
set_option maxRecDepth 100000 in
theorem c_c_X0_codeBefore {l : Launch} {D : va_G} {ad : Nat → Nat} {cy : ClassId} {σ : SS} {x2 : Int32} {r : Int32} {σ' : SS} (hf : f_c_X0_codeBefore σ x2 = some (r, σ')) : Ctr l D (cw ad cy) (cas ad) cy yX0_codeBefore cX0_codeBefore 5 (some FieldType.int) 0 0 [.ref (ad 6), .ref (ad 1), .int x2] σ (some (.int r)) σ' := by
  refine Ctr.of (cw_as ad cy) rfl (Nat.le_of_ble_eq_true rfl) (fun p e s m args below meth c ls E hr hlk hl hG => ?_)
  have hl : lv_has ls 5 [(0, .ref (ad 6)), (1, .ref (ad 1)), (2, .int x2)] := hl
  unfold f_c_X0_codeBefore at hf
  refine lv_iconst (v := (0 : Int32)) E.1 E.2.1 dX0_codeBefore_0 (by decide) ?_
  refine lv_istore_n (lv' := [(3, .int (0 : Int32)), (0, .ref (ad 6)), (1, .ref (ad 1)), (2, .int x2)]) E.1 E.2.1 dX0_codeBefore_1 rfl hl (by decide) rfl (fun ls hl => ?_)
  refine lv_iload_n E.1 E.2.1 dX0_codeBefore_2 rfl (lv_at hl 3 rfl) ?_
  refine lv_aload_n E.1 E.2.1 dX0_codeBefore_3 rfl (lv_at hl 1 rfl) ?_
  refine fg_c_X0_27_6 E hG dX0_codeBefore_4 ?_
  refine lv_isub E.1 E.2.1 dX0_codeBefore_7 ?_
  refine lv_istore (lv' := [(4, .int (x2 - (σ.1 3))), (3, .int (0 : Int32)), (0, .ref (ad 6)), (1, .ref (ad 1)), (2, .int x2)]) E.1 E.2.1 dX0_codeBefore_8 hl (by decide) rfl (fun ls hl => ?_)
  exact L3_at (P := fun σ x2 x3 x4 => At p l e 0 0 s m args below meth c D (cw ad cy) (cas ad) cy (some (.int r)) σ' 5 10 [(1, .ref (ad 1)), (2, .int x2), (3, .int x3), (4, .int x4)] [] σ) (fun g hg => k_c_X0_codeBefore_10 E hr hlk g hg) FUEL _ _ _ _ hf _ _ _ hG (lv_sub hl [3, 4, 1, 0] rfl)

set_option maxHeartbeats 4000000 in
set_option maxRecDepth 100000 in
theorem k_c_X0_numberOf_2 {p : Program} {l : Launch} {e : Env} {s : State} {m : MethodId} {args : Array Value} {below : List Frame} {meth : Method} {c : Code} {D : va_G} {ad : Nat → Nat} {cy : ClassId} {r : Int32} {σ' : SS} (E : CallFix p m c cX0_numberOf 3 s args TT yX0_numberOf.cls) (hr : meth.sig.returnType = (some FieldType.int)) (hlk : meth.locks = false) (g2 : SS → Int32 → Int32 → Option (Int32 × SS)) (hg2 : ∀ (σ : SS) (x1 : Int32) (x2 : Int32), g2 σ x1 x2 = some (r, σ') → At p l e 0 0 s m args below meth c D (cw ad cy) (cas ad) cy (some (.int r)) σ' 3 2 [(0, .ref (ad 6)), (1, .int x1), (2, .int x2)] [] σ) : ∀ (σ : SS) (x1 : Int32) (x2 : Int32), f_c_X0_numberOf_2 g2 σ x1 x2 = some (r, σ') → At p l e 0 0 s m args below meth c D (cw ad cy) (cas ad) cy (some (.int r)) σ' 3 2 [(0, .ref (ad 6)), (1, .int x1), (2, .int x2)] [] σ := by
  intro σ x1 x2 hf H locs ls hG hl
  unfold f_c_X0_numberOf_2 at hf
  refine lv_iload_n E.1 E.2.1 dX0_numberOf_2 rfl (lv_at hl 2 rfl) ?_
  refine lv_aload_n E.1 E.2.1 dX0_numberOf_3 rfl (lv_at hl 0 rfl) ?_
  refine fg_c_X0_39_6 E hG dX0_numberOf_4 ?_
  refine lv_icmp_ge (tgt := 28) E.1 E.2.1 dX0_numberOf_7 (by decide) (fun hc => ?_) (fun hc => ?_)
  · replace hf := (if_pos hc).symm.trans hf
    refine lv_aload_n E.1 E.2.1 dX0_numberOf_28 rfl (lv_at hl 0 rfl) ?_
    refine fg_c_X0_9_6 E hG dX0_numberOf_29 ?_
    refine lv_aload_n E.1 E.2.1 dX0_numberOf_32 rfl (lv_at hl 0 rfl) ?_
    refine fg_c_X0_39_6 E hG dX0_numberOf_33 ?_
    refine lv_iload_n E.1 E.2.1 dX0_numberOf_36 rfl (lv_at hl 1 rfl) ?_
    obtain ⟨hin, hf⟩ := gd_some hf
    refine as_c_7 E hG hin dX0_numberOf_37 (fun H locs hG => ?_)
    refine lv_aload_n E.1 E.2.1 dX0_numberOf_38 rfl (lv_at hl 0 rfl) ?_
    refine fg_c_X0_15_6 E hG dX0_numberOf_39 ?_
    refine lv_aload_n E.1 E.2.1 dX0_numberOf_42 rfl (lv_at hl 0 rfl) ?_
    refine fg_c_X0_39_6 E hG dX0_numberOf_43 ?_
    refine lv_iconst (v := (0 : Int32)) E.1 E.2.1 dX0_numberOf_46 (by decide) ?_
    obtain ⟨hin, hf⟩ := gd_some hf
    refine as_c_8 E hG hin dX0_numberOf_47 (fun H locs hG => ?_)
    refine lv_aload_n E.1 E.2.1 dX0_numberOf_48 rfl (lv_at hl 0 rfl) ?_
    refine lv_dup E.1 E.2.1 dX0_numberOf_49 rfl ?_
    refine fg_c_X0_39_6 E hG dX0_numberOf_50 ?_
    refine lv_dup_x1 E.1 E.2.1 dX0_numberOf_53 rfl rfl ?_
    refine lv_iconst (v := (1 : Int32)) E.1 E.2.1 dX0_numberOf_54 (by decide) ?_
    refine lv_iadd E.1 E.2.1 dX0_numberOf_55 ?_
    refine fp_c_X0_39_6 E hG dX0_numberOf_56 (fun H locs hG => ?_)
    exact r_i E hr hlk hG hf dX0_numberOf_59
  · replace hf := (if_neg hc).symm.trans hf
    refine lv_aload_n E.1 E.2.1 dX0_numberOf_10 rfl (lv_at hl 0 rfl) ?_
    refine fg_c_X0_9_6 E hG dX0_numberOf_11 ?_
    refine lv_iload_n E.1 E.2.1 dX0_numberOf_14 rfl (lv_at hl 2 rfl) ?_
    obtain ⟨hin, hf⟩ := gd_some hf
    refine al_c_7 E hG hin dX0_numberOf_15 ?_
    refine lv_iload_n E.1 E.2.1 dX0_numberOf_16 rfl (lv_at hl 1 rfl) ?_
    refine lv_icmp_ne (tgt := 22) E.1 E.2.1 dX0_numberOf_17 (by decide) (fun hc => ?_) (fun hc => ?_)
    · replace hf := (if_neg hc).symm.trans hf
      refine lv_iinc (v := (x2 + (1 : Int32))) (lv' := [(2, .int (x2 + (1 : Int32))), (0, .ref (ad 6)), (1, .int x1)]) E.1 E.2.1 dX0_numberOf_22 hl (k := 2) rfl rfl (by decide) rfl (fun ls hl => ?_)
      refine lv_goto (tgt := 2) E.1 E.2.1 dX0_numberOf_25 (by decide) ?_
      exact hg2 _ _ _ hf _ _ _ hG (lv_sub hl [1, 2, 0] rfl)
    · replace hf := (if_pos hc).symm.trans hf
      refine lv_iload_n E.1 E.2.1 dX0_numberOf_20 rfl (lv_at hl 2 rfl) ?_
      exact r_i E hr hlk hG hf dX0_numberOf_21

set_option maxHeartbeats 4000000 in
set_option maxRecDepth 100000 in
theorem c_c_X0_numberOf {l : Launch} {D : va_G} {ad : Nat → Nat} {cy : ClassId} {σ : SS} {x1 : Int32} {r : Int32} {σ' : SS} (hf : f_c_X0_numberOf σ x1 = some (r, σ')) : Ctr l D (cw ad cy) (cas ad) cy yX0_numberOf cX0_numberOf 3 (some FieldType.int) 0 0 [.ref (ad 6), .int x1] σ (some (.int r)) σ' := by
  refine Ctr.of (cw_as ad cy) rfl (Nat.le_of_ble_eq_true rfl) (fun p e s m args below meth c ls E hr hlk hl hG => ?_)
  have hl : lv_has ls 3 [(0, .ref (ad 6)), (1, .int x1)] := hl
  unfold f_c_X0_numberOf at hf
  refine lv_iconst (v := (0 : Int32)) E.1 E.2.1 dX0_numberOf_0 (by decide) ?_
  refine lv_istore_n (lv' := [(2, .int (0 : Int32)), (0, .ref (ad 6)), (1, .int x1)]) E.1 E.2.1 dX0_numberOf_1 rfl hl (by decide) rfl (fun ls hl => ?_)
  exact L2_at (P := fun σ x1 x2 => At p l e 0 0 s m args below meth c D (cw ad cy) (cas ad) cy (some (.int r)) σ' 3 2 [(0, .ref (ad 6)), (1, .int x1), (2, .int x2)] [] σ) (fun g hg => k_c_X0_numberOf_2 E hr hlk g hg) FUEL _ _ _ hf _ _ _ hG (lv_sub hl [1, 2, 0] rfl)

set_option maxHeartbeats 4000000 in
set_option maxRecDepth 100000 in
theorem k_c_X0_findEntry_2 {p : Program} {l : Launch} {e : Env} {s : State} {m : MethodId} {args : Array Value} {below : List Frame} {meth : Method} {c : Code} {D : va_G} {ad : Nat → Nat} {cy : ClassId} {r : Int32} {σ' : SS} (E : CallFix p m c cX0_findEntry 4 s args TT yX0_findEntry.cls) (hr : meth.sig.returnType = (some FieldType.int)) (hlk : meth.locks = false) (g2 : SS → Int32 → Int32 → Int32 → Option (Int32 × SS)) (hg2 : ∀ (σ : SS) (x1 : Int32) (x2 : Int32) (x3 : Int32), g2 σ x1 x2 x3 = some (r, σ') → At p l e 0 0 s m args below meth c D (cw ad cy) (cas ad) cy (some (.int r)) σ' 4 2 [(0, .ref (ad 6)), (1, .int x1), (2, .int x2), (3, .int x3)] [] σ) : ∀ (σ : SS) (x1 : Int32) (x2 : Int32) (x3 : Int32), f_c_X0_findEntry_2 g2 σ x1 x2 x3 = some (r, σ') → At p l e 0 0 s m args below meth c D (cw ad cy) (cas ad) cy (some (.int r)) σ' 4 2 [(0, .ref (ad 6)), (1, .int x1), (2, .int x2), (3, .int x3)] [] σ := by
  intro σ x1 x2 x3 hf H locs ls hG hl
  unfold f_c_X0_findEntry_2 at hf
  refine lv_iload_n E.1 E.2.1 dX0_findEntry_2 rfl (lv_at hl 3 rfl) ?_
  refine lv_aload_n E.1 E.2.1 dX0_findEntry_3 rfl (lv_at hl 0 rfl) ?_
  refine fg_c_X0_42_6 E hG dX0_findEntry_4 ?_
  refine lv_icmp_ge (tgt := 38) E.1 E.2.1 dX0_findEntry_7 (by decide) (fun hc => ?_) (fun hc => ?_)
  · replace hf := (if_pos hc).symm.trans hf
    refine lv_aload_n E.1 E.2.1 dX0_findEntry_38 rfl (lv_at hl 0 rfl) ?_
    refine fg_c_X0_42_6 E hG dX0_findEntry_39 ?_
    exact r_i E hr hlk hG hf dX0_findEntry_42
  · replace hf := (if_neg hc).symm.trans hf
    refine lv_aload_n E.1 E.2.1 dX0_findEntry_10 rfl (lv_at hl 0 rfl) ?_
    refine fg_c_X0_18_6 E hG dX0_findEntry_11 ?_
    refine lv_iload_n E.1 E.2.1 dX0_findEntry_14 rfl (lv_at hl 3 rfl) ?_
    obtain ⟨hin, hf⟩ := gd_some hf
    refine al_c_9 E hG hin dX0_findEntry_15 ?_
    refine lv_iload_n E.1 E.2.1 dX0_findEntry_16 rfl (lv_at hl 1 rfl) ?_
    refine lv_icmp_ne (tgt := 32) E.1 E.2.1 dX0_findEntry_17 (by decide) (fun hc => ?_) (fun hc => ?_)
    · replace hf := (if_neg hc).symm.trans hf
      refine lv_iinc (v := (x3 + (1 : Int32))) (lv' := [(3, .int (x3 + (1 : Int32))), (0, .ref (ad 6)), (1, .int x1), (2, .int x2)]) E.1 E.2.1 dX0_findEntry_32 hl (k := 3) rfl rfl (by decide) rfl (fun ls hl => ?_)
      refine lv_goto (tgt := 2) E.1 E.2.1 dX0_findEntry_35 (by decide) ?_
      exact hg2 _ _ _ _ hf _ _ _ hG (lv_sub hl [1, 2, 3, 0] rfl)
    · replace hf := (if_pos hc).symm.trans hf
      refine lv_aload_n E.1 E.2.1 dX0_findEntry_20 rfl (lv_at hl 0 rfl) ?_
      refine fg_c_X0_21_6 E hG dX0_findEntry_21 ?_
      refine lv_iload_n E.1 E.2.1 dX0_findEntry_24 rfl (lv_at hl 3 rfl) ?_
      obtain ⟨hin, hf⟩ := gd_some hf
      refine al_c_10 E hG hin dX0_findEntry_25 ?_
      refine lv_iload_n E.1 E.2.1 dX0_findEntry_26 rfl (lv_at hl 2 rfl) ?_
      refine lv_icmp_ne (tgt := 32) E.1 E.2.1 dX0_findEntry_27 (by decide) (fun hc => ?_) (fun hc => ?_)
      · replace hf := (if_neg hc).symm.trans hf
        refine lv_iinc (v := (x3 + (1 : Int32))) (lv' := [(3, .int (x3 + (1 : Int32))), (0, .ref (ad 6)), (1, .int x1), (2, .int x2)]) E.1 E.2.1 dX0_findEntry_32 hl (k := 3) rfl rfl (by decide) rfl (fun ls hl => ?_)
        refine lv_goto (tgt := 2) E.1 E.2.1 dX0_findEntry_35 (by decide) ?_
        exact hg2 _ _ _ _ hf _ _ _ hG (lv_sub hl [1, 2, 3, 0] rfl)
      · replace hf := (if_pos hc).symm.trans hf
        refine lv_iload_n E.1 E.2.1 dX0_findEntry_30 rfl (lv_at hl 3 rfl) ?_
        exact r_i E hr hlk hG hf dX0_findEntry_31

set_option maxHeartbeats 4000000 in
set_option maxRecDepth 100000 in
theorem c_c_X0_findEntry {l : Launch} {D : va_G} {ad : Nat → Nat} {cy : ClassId} {σ : SS} {x1 : Int32} {x2 : Int32} {r : Int32} {σ' : SS} (hf : f_c_X0_findEntry σ x1 x2 = some (r, σ')) : Ctr l D (cw ad cy) (cas ad) cy yX0_findEntry cX0_findEntry 4 (some FieldType.int) 0 0 [.ref (ad 6), .int x1, .int x2] σ (some (.int r)) σ' := by
  refine Ctr.of (cw_as ad cy) rfl (Nat.le_of_ble_eq_true rfl) (fun p e s m args below meth c ls E hr hlk hl hG => ?_)
  have hl : lv_has ls 4 [(0, .ref (ad 6)), (1, .int x1), (2, .int x2)] := hl
  unfold f_c_X0_findEntry at hf
  refine lv_iconst (v := (0 : Int32)) E.1 E.2.1 dX0_findEntry_0 (by decide) ?_
  refine lv_istore_n (lv' := [(3, .int (0 : Int32)), (0, .ref (ad 6)), (1, .int x1), (2, .int x2)]) E.1 E.2.1 dX0_findEntry_1 rfl hl (by decide) rfl (fun ls hl => ?_)
  exact L3_at (P := fun σ x1 x2 x3 => At p l e 0 0 s m args below meth c D (cw ad cy) (cas ad) cy (some (.int r)) σ' 4 2 [(0, .ref (ad 6)), (1, .int x1), (2, .int x2), (3, .int x3)] [] σ) (fun g hg => k_c_X0_findEntry_2 E hr hlk g hg) FUEL _ _ _ _ hf _ _ _ hG (lv_sub hl [1, 2, 3, 0] rfl)

set_option maxHeartbeats 4000000 in
set_option maxRecDepth 100000 in
theorem c_c_X0_entryOf {l : Launch} {D : va_G} {ad : Nat → Nat} {cy : ClassId} {σ : SS} {x1 : Int32} {x2 : Int32} {r : Int32} {σ' : SS} (hf : f_c_X0_entryOf σ x1 x2 = some (r, σ')) : Ctr l D (cw ad cy) (cas ad) cy yX0_entryOf cX0_entryOf 4 (some FieldType.int) 1 23 [.ref (ad 6), .int x1, .int x2] σ (some (.int r)) σ' := by
  refine Ctr.of (cw_as ad cy) rfl (Nat.le_of_ble_eq_true rfl) (fun p e s m args below meth c ls E hr hlk hl hG => ?_)
  have hl : lv_has ls 4 [(0, .ref (ad 6)), (1, .int x1), (2, .int x2)] := hl
  unfold f_c_X0_entryOf at hf
  refine lv_aload_n E.1 E.2.1 dX0_entryOf_0 rfl (lv_at hl 0 rfl) ?_
  refine lv_iload_n E.1 E.2.1 dX0_entryOf_1 rfl (lv_at hl 1 rfl) ?_
  refine lv_iload_n E.1 E.2.1 dX0_entryOf_2 rfl (lv_at hl 2 rfl) ?_
  obtain ⟨r3, σ3, hcl, hf⟩ := bd_some hf
  refine cl_V (rest := []) (st1 := [.int r3]) (As := [.int x1, .int x2]) E hG (c_c_X0_findEntry hcl) Wd_407 mi_X0_findEntry ⟨Nat.le_of_ble_eq_true rfl, Nat.le_of_ble_eq_true rfl, Nat.zero_le _, Nat.zero_le _⟩ 2 6 rfl rfl rfl hl.1 rfl (Nat.le_of_ble_eq_true rfl) dX0_entryOf_3 rfl (fun H locs hG => ?_)
  refine lv_istore_n (lv' := [(3, .int r3), (0, .ref (ad 6)), (1, .int x1), (2, .int x2)]) E.1 E.2.1 dX0_entryOf_6 rfl hl (by decide) rfl (fun ls hl => ?_)
  refine lv_iload_n E.1 E.2.1 dX0_entryOf_7 rfl (lv_at hl 0 rfl) ?_
  refine lv_aload_n E.1 E.2.1 dX0_entryOf_8 rfl (lv_at hl 1 rfl) ?_
  refine fg_c_X0_42_6 E hG dX0_entryOf_9 ?_
  refine lv_icmp_ne (tgt := 46) E.1 E.2.1 dX0_entryOf_12 (by decide) (fun hc => ?_) (fun hc => ?_)
  · replace hf := (if_neg hc).symm.trans hf
    refine lv_iload_n E.1 E.2.1 dX0_entryOf_46 rfl (lv_at hl 0 rfl) ?_
    exact r_i E hr hlk hG hf dX0_entryOf_47
  · replace hf := (if_pos hc).symm.trans hf
    refine lv_aload_n E.1 E.2.1 dX0_entryOf_15 rfl (lv_at hl 1 rfl) ?_
    refine fg_c_X0_18_6 E hG dX0_entryOf_16 ?_
    refine lv_iload_n E.1 E.2.1 dX0_entryOf_19 rfl (lv_at hl 0 rfl) ?_
    refine lv_iload_n E.1 E.2.1 dX0_entryOf_20 rfl (lv_at hl 2 rfl) ?_
    obtain ⟨hin, hf⟩ := gd_some hf
    refine as_c_9 E hG hin dX0_entryOf_21 (fun H locs hG => ?_)
    refine lv_aload_n E.1 E.2.1 dX0_entryOf_22 rfl (lv_at hl 1 rfl) ?_
    refine fg_c_X0_21_6 E hG dX0_entryOf_23 ?_
    refine lv_iload_n E.1 E.2.1 dX0_entryOf_26 rfl (lv_at hl 0 rfl) ?_
    refine lv_iload_n E.1 E.2.1 dX0_entryOf_27 rfl (lv_at hl 3 rfl) ?_
    obtain ⟨hin, hf⟩ := gd_some hf
    refine as_c_10 E hG hin dX0_entryOf_28 (fun H locs hG => ?_)
    refine lv_aload_n E.1 E.2.1 dX0_entryOf_29 rfl (lv_at hl 1 rfl) ?_
    refine fg_c_X0_24_6 E hG dX0_entryOf_30 ?_
    refine lv_iload_n E.1 E.2.1 dX0_entryOf_33 rfl (lv_at hl 0 rfl) ?_
    refine lv_iconst (v := (0 : Int32)) E.1 E.2.1 dX0_entryOf_34 (by decide) ?_
    obtain ⟨hin, hf⟩ := gd_some hf
    refine as_c_11 E hG hin dX0_entryOf_35 (fun H locs hG => ?_)
    refine lv_aload_n E.1 E.2.1 dX0_entryOf_36 rfl (lv_at hl 1 rfl) ?_
    refine lv_dup E.1 E.2.1 dX0_entryOf_37 rfl ?_
    refine fg_c_X0_42_6 E hG dX0_entryOf_38 ?_
    refine lv_iconst (v := (1 : Int32)) E.1 E.2.1 dX0_entryOf_41 (by decide) ?_
    refine lv_iadd E.1 E.2.1 dX0_entryOf_42 ?_
    refine fp_c_X0_42_6 E hG dX0_entryOf_43 (fun H locs hG => ?_)
    refine lv_iload_n E.1 E.2.1 dX0_entryOf_46 rfl (lv_at hl 0 rfl) ?_
    exact r_i E hr hlk hG hf dX0_entryOf_47

set_option maxHeartbeats 4000000 in
set_option maxRecDepth 100000 in
theorem k_c_X0_follow_35 {p : Program} {l : Launch} {e : Env} {s : State} {m : MethodId} {args : Array Value} {below : List Frame} {meth : Method} {c : Code} {D : va_G} {ad : Nat → Nat} {cy : ClassId} {r : Unit} {σ' : SS} (E : CallFix p m c cX0_follow 4 s args TT yX0_follow.cls) (hr : meth.sig.returnType = none) (hlk : meth.locks = false) (g35 : SS → Int32 → Option (Unit × SS)) (hg35 : ∀ (σ : SS) (x2 : Int32), g35 σ x2 = some (r, σ') → At p l e 2 46 s m args below meth c D (cw ad cy) (cas ad) cy (none) σ' 4 35 [(0, .ref (ad 6)), (1, .ref (ad 1)), (2, .int x2)] [] σ) : ∀ (σ : SS) (x2 : Int32), f_c_X0_follow_35 g35 σ x2 = some (r, σ') → At p l e 2 46 s m args below meth c D (cw ad cy) (cas ad) cy (none) σ' 4 35 [(0, .ref (ad 6)), (1, .ref (ad 1)), (2, .int x2)] [] σ := by
  intro σ x2 hf H locs ls hG hl
  unfold f_c_X0_follow_35 at hf
  refine lv_iload_n E.1 E.2.1 dX0_follow_35 rfl (lv_at hl 2 rfl) ?_
  refine lv_aload_n E.1 E.2.1 dX0_follow_36 rfl (lv_at hl 1 rfl) ?_
  refine fg_c_X0_45_1 E hG dX0_follow_37 ?_
  refine lv_icmp_ge (tgt := 90) E.1 E.2.1 dX0_follow_40 (by decide) (fun hc => ?_) (fun hc => ?_)
  · replace hf := (if_pos hc).symm.trans hf
    exact r_v E hr hlk hG hf dX0_follow_90
  · replace hf := (if_neg hc).symm.trans hf
    refine lv_aload_n E.1 E.2.1 dX0_follow_43 rfl (lv_at hl 0 rfl) ?_
    refine lv_aload_n E.1 E.2.1 dX0_follow_44 rfl (lv_at hl 0 rfl) ?_
    refine lv_aload_n E.1 E.2.1 dX0_follow_45 rfl (lv_at hl 1 rfl) ?_
    refine lv_iload_n E.1 E.2.1 dX0_follow_46 rfl (lv_at hl 2 rfl) ?_
    obtain ⟨r47, σ47, hcl, hf⟩ := bd_some hf
    refine cl_V (rest := [.ref (ad 6)]) (st1 := [.int r47, .ref (ad 6)]) (As := [.ref (ad 1), .int x2]) E hG (c_c_X0_codeBefore hcl) Wd_395 mi_X0_codeBefore ⟨Nat.le_of_ble_eq_true rfl, Nat.le_of_ble_eq_true rfl, Nat.zero_le _, Nat.zero_le _⟩ 2 6 rfl rfl rfl hl.1 rfl (Nat.le_of_ble_eq_true rfl) dX0_follow_47 rfl (fun H locs hG => ?_)
    obtain ⟨r50, σ50, hcl, hf⟩ := bd_some hf
    refine cl_V (rest := []) (st1 := [.int r50]) (As := [.int r47]) E hG (c_c_X0_numberOf hcl) Wd_399 mi_X0_numberOf ⟨Nat.le_of_ble_eq_true rfl, Nat.le_of_ble_eq_true rfl, Nat.zero_le _, Nat.zero_le _⟩ 2 6 rfl rfl rfl hl.1 rfl (Nat.le_of_ble_eq_true rfl) dX0_follow_50 rfl (fun H locs hG => ?_)
    refine lv_istore_n (lv' := [(3, .int r50), (0, .ref (ad 6)), (1, .ref (ad 1)), (2, .int x2)]) E.1 E.2.1 dX0_follow_53 rfl hl (by decide) rfl (fun ls hl => ?_)
    refine lv_aload_n E.1 E.2.1 dX0_follow_54 rfl (lv_at hl 1 rfl) ?_
    refine fg_c_X0_15_6 E hG dX0_follow_55 ?_
    refine lv_iload_n E.1 E.2.1 dX0_follow_58 rfl (lv_at hl 0 rfl) ?_
    refine lv_dup2_11 E.1 E.2.1 dX0_follow_59 rfl rfl ?_
    obtain ⟨hin, hf⟩ := gd_some hf
    refine al_c_8 E hG hin dX0_follow_60 ?_
    refine lv_iconst (v := (1 : Int32)) E.1 E.2.1 dX0_follow_61 (by decide) ?_
    refine lv_iadd E.1 E.2.1 dX0_follow_62 ?_
    obtain ⟨hin, hf⟩ := gd_some hf
    refine as_c_8 E hG hin dX0_follow_63 (fun H locs hG => ?_)
    refine lv_aload_n E.1 E.2.1 dX0_follow_64 rfl (lv_at hl 1 rfl) ?_
    refine fg_c_X0_24_6 E hG dX0_follow_65 ?_
    refine lv_aload_n E.1 E.2.1 dX0_follow_68 rfl (lv_at hl 1 rfl) ?_
    refine lv_iload_n E.1 E.2.1 dX0_follow_69 rfl (lv_at hl 0 rfl) ?_
    refine lv_aload_n E.1 E.2.1 dX0_follow_70 rfl (lv_at hl 2 rfl) ?_
    refine fg_c_X0_56_1 E hG dX0_follow_71 ?_
    refine lv_iload_n E.1 E.2.1 dX0_follow_74 rfl (lv_at hl 3 rfl) ?_
    obtain ⟨hin, hf⟩ := gd_some hf
    refine al_c_2 E hG hin dX0_follow_75 ?_
    obtain ⟨r76, σ76, hcl, hf⟩ := bd_some hf
    refine cl_V (rest := [.ref (ad 11)]) (st1 := [.int r76, .ref (ad 11)]) (As := [.int r50, .int ((putA σ50 4 (Int32.toNatClampNeg r50) ((σ50.2 4 (Int32.toNatClampNeg r50)) + (1 : Int32))).2 0 (Int32.toNatClampNeg x2))]) E hG (c_c_X0_entryOf hcl) Wd_403 mi_X0_entryOf ⟨Nat.le_of_ble_eq_true rfl, Nat.le_of_ble_eq_true rfl, Nat.zero_le _, Nat.zero_le _⟩ 2 6 rfl rfl rfl hl.1 rfl (Nat.le_of_ble_eq_true rfl) dX0_follow_76 rfl (fun H locs hG => ?_)
    refine lv_dup2_11 E.1 E.2.1 dX0_follow_79 rfl rfl ?_
    obtain ⟨hin, hf⟩ := gd_some hf
    refine al_c_11 E hG hin dX0_follow_80 ?_
    refine lv_iconst (v := (1 : Int32)) E.1 E.2.1 dX0_follow_81 (by decide) ?_
    refine lv_iadd E.1 E.2.1 dX0_follow_82 ?_
    obtain ⟨hin, hf⟩ := gd_some hf
    refine as_c_11 E hG hin dX0_follow_83 (fun H locs hG => ?_)
    refine lv_iinc (v := (x2 + (1 : Int32))) (lv' := [(2, .int (x2 + (1 : Int32))), (3, .int r50), (0, .ref (ad 6)), (1, .ref (ad 1))]) E.1 E.2.1 dX0_follow_84 hl (k := 3) rfl rfl (by decide) rfl (fun ls hl => ?_)
    refine lv_goto (tgt := 35) E.1 E.2.1 dX0_follow_87 (by decide) ?_
    exact hg35 _ _ hf _ _ _ hG (lv_sub hl [2, 3, 0] rfl)

set_option maxHeartbeats 4000000 in
set_option maxRecDepth 100000 in
theorem c_c_X0_follow {l : Launch} {D : va_G} {ad : Nat → Nat} {cy : ClassId} {σ : SS} {r : Unit} {σ' : SS} (hf : f_c_X0_follow σ = some (r, σ')) : Ctr l D (cw ad cy) (cas ad) cy yX0_follow cX0_follow 4 none 2 46 [.ref (ad 6), .ref (ad 1)] σ (none) σ' := by
  refine Ctr.of (cw_as ad cy) rfl (Nat.le_of_ble_eq_true rfl) (fun p e s m args below meth c ls E hr hlk hl hG => ?_)
  have hl : lv_has ls 4 [(0, .ref (ad 6)), (1, .ref (ad 1))] := hl
  unfold f_c_X0_follow at hf
  refine lv_aload_n E.1 E.2.1 dX0_follow_0 rfl (lv_at hl 0 rfl) ?_
  refine fg_c_X0_31_6 E hG dX0_follow_1 ?_
  refine lv_aload_n E.1 E.2.1 dX0_follow_4 rfl (lv_at hl 1 rfl) ?_
  refine fg_c_X0_34_1 E hG dX0_follow_5 ?_
  refine lv_icmp_ne (tgt := 12) E.1 E.2.1 dX0_follow_8 (by decide) (fun hc => ?_) (fun hc => ?_)
  · replace hf := (if_neg hc).symm.trans hf
    refine lv_aload_n E.1 E.2.1 dX0_follow_12 rfl (lv_at hl 0 rfl) ?_
    refine lv_aload_n E.1 E.2.1 dX0_follow_13 rfl (lv_at hl 1 rfl) ?_
    refine fg_c_X0_34_1 E hG dX0_follow_14 ?_
    refine fp_c_X0_31_6 E hG dX0_follow_17 (fun H locs hG => ?_)
    refine lv_aload_n E.1 E.2.1 dX0_follow_20 rfl (lv_at hl 0 rfl) ?_
    refine lv_iconst (v := (0 : Int32)) E.1 E.2.1 dX0_follow_21 (by decide) ?_
    refine fp_c_X0_39_6 E hG dX0_follow_22 (fun H locs hG => ?_)
    refine lv_aload_n E.1 E.2.1 dX0_follow_25 rfl (lv_at hl 0 rfl) ?_
    refine lv_iconst (v := (0 : Int32)) E.1 E.2.1 dX0_follow_26 (by decide) ?_
    refine fp_c_X0_42_6 E hG dX0_follow_27 (fun H locs hG => ?_)
    refine lv_aload_n E.1 E.2.1 dX0_follow_30 rfl (lv_at hl 0 rfl) ?_
    refine fg_c_X0_27_6 E hG dX0_follow_31 ?_
    refine lv_istore_n (lv' := [(2, .int ((putI (putI (putI σ 6 (σ.1 1)) 4 (0 : Int32)) 5 (0 : Int32)).1 3)), (0, .ref (ad 6)), (1, .ref (ad 1))]) E.1 E.2.1 dX0_follow_34 rfl hl (by decide) rfl (fun ls hl => ?_)
    exact L1_at (P := fun σ x2 => At p l e 2 46 s m args below meth c D (cw ad cy) (cas ad) cy (none) σ' 4 35 [(0, .ref (ad 6)), (1, .ref (ad 1)), (2, .int x2)] [] σ) (fun g hg => k_c_X0_follow_35 E hr hlk g hg) FUEL _ _ hf _ _ _ hG (lv_sub hl [1, 2, 0] rfl)
  · replace hf := (if_pos hc).symm.trans hf
    exact r_v E hr hlk hG hf dX0_follow_11

set_option maxHeartbeats 4000000 in
set_option maxRecDepth 100000 in
theorem c_c_X11_order {l : Launch} {D : va_G} {ad : Nat → Nat} {cy : ClassId} {σ : SS} {x1 : Int32} {r : Int32} {σ' : SS} (hf : f_c_X11_order σ x1 = some (r, σ')) : Ctr l D (cw ad cy) (cas ad) cy yX11_order cX11_order 2 (some FieldType.int) 3 69 [.ref (ad 0), .int x1] σ (some (.int r)) σ' := by
  refine Ctr.of (cw_as ad cy) rfl (Nat.le_of_ble_eq_true rfl) (fun p e s m args below meth c ls E hr hlk hl hG => ?_)
  have hl : lv_has ls 2 [(0, .ref (ad 0)), (1, .int x1)] := hl
  unfold f_c_X11_order at hf
  refine lv_iload_n E.1 E.2.1 dX11_order_0 rfl (lv_at hl 1 rfl) ?_
  refine lv_iconst (v := (0 : Int32)) E.1 E.2.1 dX11_order_1 (by decide) ?_
  refine lv_iconst (v := (3 : Int32)) E.1 E.2.1 dX11_order_2 (by decide) ?_
  obtain ⟨r3, σ3, hcl, hf⟩ := bd_some hf
  refine cl_S (rest := []) (st1 := [.int r3]) (As := [.int x1, .int (0 : Int32), .int (3 : Int32)]) E hG (c_c_X11_within hcl) Wd_365 mi_X11_within ⟨Nat.le_of_ble_eq_true rfl, Nat.le_of_ble_eq_true rfl, Nat.zero_le _, Nat.zero_le _⟩ rfl hl.1 rfl (Nat.le_of_ble_eq_true rfl) dX11_order_3 rfl (fun H locs hG => ?_)
  refine lv_if_ne (tgt := 11) E.1 E.2.1 dX11_order_6 (by decide) (fun hc => ?_) (fun hc => ?_)
  · replace hf := (if_neg hc).symm.trans hf
    refine lv_aload_n E.1 E.2.1 dX11_order_11 rfl (lv_at hl 0 rfl) ?_
    refine fg_c_X11_26_0 E hG dX11_order_12 ?_
    refine lv_iload_n E.1 E.2.1 dX11_order_15 rfl (lv_at hl 1 rfl) ?_
    obtain ⟨r16, σ16, hcl, hf⟩ := bd_some hf
    refine cl_V (rest := []) (st1 := []) (As := [.int x1]) E hG (c_c_X0_setOrder hcl) Wd_387 mi_X0_setOrder ⟨Nat.le_of_ble_eq_true rfl, Nat.le_of_ble_eq_true rfl, Nat.zero_le _, Nat.zero_le _⟩ 2 6 rfl rfl rfl hl.1 rfl (Nat.le_of_ble_eq_true rfl) dX11_order_16 rfl (fun H locs hG => ?_)
    refine lv_aload_n E.1 E.2.1 dX11_order_19 rfl (lv_at hl 0 rfl) ?_
    refine fg_c_X11_26_0 E hG dX11_order_20 ?_
    refine lv_aload_n E.1 E.2.1 dX11_order_23 rfl (lv_at hl 0 rfl) ?_
    refine fg_c_X11_10_0 E hG dX11_order_24 ?_
    obtain ⟨r27, σ27, hcl, hf⟩ := bd_some hf
    refine cl_V (rest := []) (st1 := []) (As := [.ref (ad 1)]) E hG (c_c_X0_follow hcl) Wd_391 mi_X0_follow ⟨Nat.le_of_ble_eq_true rfl, Nat.le_of_ble_eq_true rfl, Nat.zero_le _, Nat.zero_le _⟩ 2 6 rfl rfl rfl hl.1 rfl (Nat.le_of_ble_eq_true rfl) dX11_order_27 rfl (fun H locs hG => ?_)
    refine lv_aload_n E.1 E.2.1 dX11_order_30 rfl (lv_at hl 0 rfl) ?_
    refine fg_c_X11_26_0 E hG dX11_order_31 ?_
    refine fg_c_X11_91_6 E hG dX11_order_34 ?_
    exact r_i E hr hlk hG hf dX11_order_37
  · replace hf := (if_pos hc).symm.trans hf
    refine lv_iconst (v := (-1 : Int32)) E.1 E.2.1 dX11_order_9 (by decide) ?_
    exact r_i E hr hlk hG hf dX11_order_10

set_option maxHeartbeats 4000000 in
set_option maxRecDepth 100000 in
theorem c_c_X0_signOf {l : Launch} {D : va_G} {ad : Nat → Nat} {cy : ClassId} {σ : SS} {x1 : Int32} {x2 : Int32} {r : Int32} {σ' : SS} (hf : f_c_X0_signOf σ x1 x2 = some (r, σ')) : Ctr l D (cw ad cy) (cas ad) cy yX0_signOf cX0_signOf 3 (some FieldType.int) 0 0 [.ref (ad 6), .int x1, .int x2] σ (some (.int r)) σ' := by
  refine Ctr.of (cw_as ad cy) rfl (Nat.le_of_ble_eq_true rfl) (fun p e s m args below meth c ls E hr hlk hl hG => ?_)
  have hl : lv_has ls 3 [(0, .ref (ad 6)), (1, .int x1), (2, .int x2)] := hl
  unfold f_c_X0_signOf at hf
  refine lv_aload_n E.1 E.2.1 dX0_signOf_0 rfl (lv_at hl 0 rfl) ?_
  refine fg_c_X0_9_6 E hG dX0_signOf_1 ?_
  refine lv_iload_n E.1 E.2.1 dX0_signOf_4 rfl (lv_at hl 1 rfl) ?_
  obtain ⟨hin, hf⟩ := gd_some hf
  refine al_c_7 E hG hin dX0_signOf_5 ?_
  refine lv_iconst (v := (4 : Int32)) E.1 E.2.1 dX0_signOf_6 (by decide) ?_
  refine lv_aload_n E.1 E.2.1 dX0_signOf_7 rfl (lv_at hl 0 rfl) ?_
  refine fg_c_X0_27_6 E hG dX0_signOf_8 ?_
  refine lv_iconst (v := (1 : Int32)) E.1 E.2.1 dX0_signOf_11 (by decide) ?_
  refine lv_isub E.1 E.2.1 dX0_signOf_12 ?_
  refine lv_iload_n E.1 E.2.1 dX0_signOf_13 rfl (lv_at hl 2 rfl) ?_
  refine lv_isub E.1 E.2.1 dX0_signOf_14 ?_
  refine lv_imul E.1 E.2.1 dX0_signOf_15 ?_
  refine lv_ishr E.1 E.2.1 dX0_signOf_16 ?_
  refine lv_bipush (v := (15 : Int32)) E.1 E.2.1 dX0_signOf_17 (by decide) ?_
  refine lv_iand E.1 E.2.1 dX0_signOf_19 ?_
  exact r_i E hr hlk hG hf dX0_signOf_20

set_option maxHeartbeats 4000000 in
set_option maxRecDepth 100000 in
theorem c_c_X11_context {l : Launch} {D : va_G} {ad : Nat → Nat} {cy : ClassId} {σ : SS} {x1 : Int32} {x2 : Int32} {r : Int32} {σ' : SS} (hf : f_c_X11_context σ x1 x2 = some (r, σ')) : Ctr l D (cw ad cy) (cas ad) cy yX11_context cX11_context 3 (some FieldType.int) 3 69 [.ref (ad 0), .int x1, .int x2] σ (some (.int r)) σ' := by
  refine Ctr.of (cw_as ad cy) rfl (Nat.le_of_ble_eq_true rfl) (fun p e s m args below meth c ls E hr hlk hl hG => ?_)
  have hl : lv_has ls 3 [(0, .ref (ad 0)), (1, .int x1), (2, .int x2)] := hl
  unfold f_c_X11_context at hf
  refine lv_aload_n E.1 E.2.1 dX11_context_0 rfl (lv_at hl 0 rfl) ?_
  refine fg_c_X11_26_0 E hG dX11_context_1 ?_
  refine lv_aload_n E.1 E.2.1 dX11_context_4 rfl (lv_at hl 0 rfl) ?_
  refine fg_c_X11_10_0 E hG dX11_context_5 ?_
  obtain ⟨r8, σ8, hcl, hf⟩ := bd_some hf
  refine cl_V (rest := []) (st1 := []) (As := [.ref (ad 1)]) E hG (c_c_X0_follow hcl) Wd_391 mi_X0_follow ⟨Nat.le_of_ble_eq_true rfl, Nat.le_of_ble_eq_true rfl, Nat.zero_le _, Nat.zero_le _⟩ 2 6 rfl rfl rfl hl.1 rfl (Nat.le_of_ble_eq_true rfl) dX11_context_8 rfl (fun H locs hG => ?_)
  refine lv_iload_n E.1 E.2.1 dX11_context_11 rfl (lv_at hl 1 rfl) ?_
  refine lv_iconst (v := (0 : Int32)) E.1 E.2.1 dX11_context_12 (by decide) ?_
  refine lv_aload_n E.1 E.2.1 dX11_context_13 rfl (lv_at hl 0 rfl) ?_
  refine fg_c_X11_26_0 E hG dX11_context_14 ?_
  refine fg_c_X11_91_6 E hG dX11_context_17 ?_
  refine lv_iconst (v := (1 : Int32)) E.1 E.2.1 dX11_context_20 (by decide) ?_
  refine lv_isub E.1 E.2.1 dX11_context_21 ?_
  obtain ⟨r22, σ22, hcl, hf⟩ := bd_some hf
  refine cl_S (rest := []) (st1 := [.int r22]) (As := [.int x1, .int (0 : Int32), .int ((σ8.1 4) - (1 : Int32))]) E hG (c_c_X11_within hcl) Wd_365 mi_X11_within ⟨Nat.le_of_ble_eq_true rfl, Nat.le_of_ble_eq_true rfl, Nat.zero_le _, Nat.zero_le _⟩ rfl hl.1 rfl (Nat.le_of_ble_eq_true rfl) dX11_context_22 rfl (fun H locs hG => ?_)
  refine lv_if_eq (tgt := 45) E.1 E.2.1 dX11_context_25 (by decide) (fun hc => ?_) (fun hc => ?_)
  · replace hf := (if_pos hc).symm.trans hf
    refine lv_iconst (v := (-1 : Int32)) E.1 E.2.1 dX11_context_45 (by decide) ?_
    exact r_i E hr hlk hG hf dX11_context_46
  · replace hf := (if_neg hc).symm.trans hf
    refine lv_iload_n E.1 E.2.1 dX11_context_28 rfl (lv_at hl 2 rfl) ?_
    refine lv_iconst (v := (0 : Int32)) E.1 E.2.1 dX11_context_29 (by decide) ?_
    refine lv_aload_n E.1 E.2.1 dX11_context_30 rfl (lv_at hl 0 rfl) ?_
    refine fg_c_X11_26_0 E hG dX11_context_31 ?_
    refine fg_c_X11_94_6 E hG dX11_context_34 ?_
    refine lv_iconst (v := (1 : Int32)) E.1 E.2.1 dX11_context_37 (by decide) ?_
    refine lv_isub E.1 E.2.1 dX11_context_38 ?_
    obtain ⟨r39, σ39, hcl, hf⟩ := bd_some hf
    refine cl_S (rest := []) (st1 := [.int r39]) (As := [.int x2, .int (0 : Int32), .int ((σ22.1 3) - (1 : Int32))]) E hG (c_c_X11_within hcl) Wd_365 mi_X11_within ⟨Nat.le_of_ble_eq_true rfl, Nat.le_of_ble_eq_true rfl, Nat.zero_le _, Nat.zero_le _⟩ rfl hl.1 rfl (Nat.le_of_ble_eq_true rfl) dX11_context_39 rfl (fun H locs hG => ?_)
    refine lv_if_ne (tgt := 47) E.1 E.2.1 dX11_context_42 (by decide) (fun hc => ?_) (fun hc => ?_)
    · replace hf := (if_neg hc).symm.trans hf
      refine lv_aload_n E.1 E.2.1 dX11_context_47 rfl (lv_at hl 0 rfl) ?_
      refine fg_c_X11_26_0 E hG dX11_context_48 ?_
      refine lv_iload_n E.1 E.2.1 dX11_context_51 rfl (lv_at hl 1 rfl) ?_
      refine lv_iload_n E.1 E.2.1 dX11_context_52 rfl (lv_at hl 2 rfl) ?_
      obtain ⟨r53, σ53, hcl, hf⟩ := bd_some hf
      refine cl_V (rest := []) (st1 := [.int r53]) (As := [.int x1, .int x2]) E hG (c_c_X0_signOf hcl) Wd_415 mi_X0_signOf ⟨Nat.le_of_ble_eq_true rfl, Nat.le_of_ble_eq_true rfl, Nat.zero_le _, Nat.zero_le _⟩ 2 6 rfl rfl rfl hl.1 rfl (Nat.le_of_ble_eq_true rfl) dX11_context_53 rfl (fun H locs hG => ?_)
      exact r_i E hr hlk hG hf dX11_context_56
    · replace hf := (if_pos hc).symm.trans hf
      refine lv_iconst (v := (-1 : Int32)) E.1 E.2.1 dX11_context_45 (by decide) ?_
      exact r_i E hr hlk hG hf dX11_context_46

set_option maxHeartbeats 4000000 in
set_option maxRecDepth 100000 in
theorem c_c_X0_countOf {l : Launch} {D : va_G} {ad : Nat → Nat} {cy : ClassId} {σ : SS} {x1 : Int32} {x2 : Int32} {r : Int32} {σ' : SS} (hf : f_c_X0_countOf σ x1 x2 = some (r, σ')) : Ctr l D (cw ad cy) (cas ad) cy yX0_countOf cX0_countOf 4 (some FieldType.int) 1 23 [.ref (ad 6), .int x1, .int x2] σ (some (.int r)) σ' := by
  refine Ctr.of (cw_as ad cy) rfl (Nat.le_of_ble_eq_true rfl) (fun p e s m args below meth c ls E hr hlk hl hG => ?_)
  have hl : lv_has ls 4 [(0, .ref (ad 6)), (1, .int x1), (2, .int x2)] := hl
  unfold f_c_X0_countOf at hf
  refine lv_aload_n E.1 E.2.1 dX0_countOf_0 rfl (lv_at hl 0 rfl) ?_
  refine lv_iload_n E.1 E.2.1 dX0_countOf_1 rfl (lv_at hl 1 rfl) ?_
  refine lv_iload_n E.1 E.2.1 dX0_countOf_2 rfl (lv_at hl 2 rfl) ?_
  obtain ⟨r3, σ3, hcl, hf⟩ := bd_some hf
  refine cl_V (rest := []) (st1 := [.int r3]) (As := [.int x1, .int x2]) E hG (c_c_X0_findEntry hcl) Wd_407 mi_X0_findEntry ⟨Nat.le_of_ble_eq_true rfl, Nat.le_of_ble_eq_true rfl, Nat.zero_le _, Nat.zero_le _⟩ 2 6 rfl rfl rfl hl.1 rfl (Nat.le_of_ble_eq_true rfl) dX0_countOf_3 rfl (fun H locs hG => ?_)
  refine lv_istore_n (lv' := [(3, .int r3), (0, .ref (ad 6)), (1, .int x1), (2, .int x2)]) E.1 E.2.1 dX0_countOf_6 rfl hl (by decide) rfl (fun ls hl => ?_)
  refine lv_iload_n E.1 E.2.1 dX0_countOf_7 rfl (lv_at hl 0 rfl) ?_
  refine lv_aload_n E.1 E.2.1 dX0_countOf_8 rfl (lv_at hl 1 rfl) ?_
  refine fg_c_X0_42_6 E hG dX0_countOf_9 ?_
  refine lv_icmp_ge (tgt := 24) E.1 E.2.1 dX0_countOf_12 (by decide) (fun hc => ?_) (fun hc => ?_)
  · replace hf := (if_pos hc).symm.trans hf
    refine lv_iconst (v := (0 : Int32)) E.1 E.2.1 dX0_countOf_24 (by decide) ?_
    exact r_i E hr hlk hG hf dX0_countOf_25
  · replace hf := (if_neg hc).symm.trans hf
    refine lv_aload_n E.1 E.2.1 dX0_countOf_15 rfl (lv_at hl 1 rfl) ?_
    refine fg_c_X0_24_6 E hG dX0_countOf_16 ?_
    refine lv_iload_n E.1 E.2.1 dX0_countOf_19 rfl (lv_at hl 0 rfl) ?_
    obtain ⟨hin, hf⟩ := gd_some hf
    refine al_c_11 E hG hin dX0_countOf_20 ?_
    refine lv_goto (tgt := 25) E.1 E.2.1 dX0_countOf_21 (by decide) ?_
    exact r_i E hr hlk hG hf dX0_countOf_25

set_option maxHeartbeats 4000000 in
set_option maxRecDepth 100000 in
theorem c_c_X11_count {l : Launch} {D : va_G} {ad : Nat → Nat} {cy : ClassId} {σ : SS} {x1 : Int32} {x2 : Int32} {r : Int32} {σ' : SS} (hf : f_c_X11_count σ x1 x2 = some (r, σ')) : Ctr l D (cw ad cy) (cas ad) cy yX11_count cX11_count 3 (some FieldType.int) 3 69 [.ref (ad 0), .int x1, .int x2] σ (some (.int r)) σ' := by
  refine Ctr.of (cw_as ad cy) rfl (Nat.le_of_ble_eq_true rfl) (fun p e s m args below meth c ls E hr hlk hl hG => ?_)
  have hl : lv_has ls 3 [(0, .ref (ad 0)), (1, .int x1), (2, .int x2)] := hl
  unfold f_c_X11_count at hf
  refine lv_aload_n E.1 E.2.1 dX11_count_0 rfl (lv_at hl 0 rfl) ?_
  refine fg_c_X11_26_0 E hG dX11_count_1 ?_
  refine lv_aload_n E.1 E.2.1 dX11_count_4 rfl (lv_at hl 0 rfl) ?_
  refine fg_c_X11_10_0 E hG dX11_count_5 ?_
  obtain ⟨r8, σ8, hcl, hf⟩ := bd_some hf
  refine cl_V (rest := []) (st1 := []) (As := [.ref (ad 1)]) E hG (c_c_X0_follow hcl) Wd_391 mi_X0_follow ⟨Nat.le_of_ble_eq_true rfl, Nat.le_of_ble_eq_true rfl, Nat.zero_le _, Nat.zero_le _⟩ 2 6 rfl rfl rfl hl.1 rfl (Nat.le_of_ble_eq_true rfl) dX11_count_8 rfl (fun H locs hG => ?_)
  refine lv_iload_n E.1 E.2.1 dX11_count_11 rfl (lv_at hl 1 rfl) ?_
  refine lv_iconst (v := (0 : Int32)) E.1 E.2.1 dX11_count_12 (by decide) ?_
  refine lv_aload_n E.1 E.2.1 dX11_count_13 rfl (lv_at hl 0 rfl) ?_
  refine fg_c_X11_26_0 E hG dX11_count_14 ?_
  refine fg_c_X11_91_6 E hG dX11_count_17 ?_
  refine lv_iconst (v := (1 : Int32)) E.1 E.2.1 dX11_count_20 (by decide) ?_
  refine lv_isub E.1 E.2.1 dX11_count_21 ?_
  obtain ⟨r22, σ22, hcl, hf⟩ := bd_some hf
  refine cl_S (rest := []) (st1 := [.int r22]) (As := [.int x1, .int (0 : Int32), .int ((σ8.1 4) - (1 : Int32))]) E hG (c_c_X11_within hcl) Wd_365 mi_X11_within ⟨Nat.le_of_ble_eq_true rfl, Nat.le_of_ble_eq_true rfl, Nat.zero_le _, Nat.zero_le _⟩ rfl hl.1 rfl (Nat.le_of_ble_eq_true rfl) dX11_count_22 rfl (fun H locs hG => ?_)
  refine lv_if_eq (tgt := 38) E.1 E.2.1 dX11_count_25 (by decide) (fun hc => ?_) (fun hc => ?_)
  · replace hf := (if_pos hc).symm.trans hf
    refine lv_iconst (v := (-1 : Int32)) E.1 E.2.1 dX11_count_38 (by decide) ?_
    exact r_i E hr hlk hG hf dX11_count_39
  · replace hf := (if_neg hc).symm.trans hf
    refine lv_iload_n E.1 E.2.1 dX11_count_28 rfl (lv_at hl 2 rfl) ?_
    refine lv_iconst (v := (-1 : Int32)) E.1 E.2.1 dX11_count_29 (by decide) ?_
    refine lv_bipush (v := (15 : Int32)) E.1 E.2.1 dX11_count_30 (by decide) ?_
    obtain ⟨r32, σ32, hcl, hf⟩ := bd_some hf
    refine cl_S (rest := []) (st1 := [.int r32]) (As := [.int x2, .int (-1 : Int32), .int (15 : Int32)]) E hG (c_c_X11_within hcl) Wd_365 mi_X11_within ⟨Nat.le_of_ble_eq_true rfl, Nat.le_of_ble_eq_true rfl, Nat.zero_le _, Nat.zero_le _⟩ rfl hl.1 rfl (Nat.le_of_ble_eq_true rfl) dX11_count_32 rfl (fun H locs hG => ?_)
    refine lv_if_ne (tgt := 40) E.1 E.2.1 dX11_count_35 (by decide) (fun hc => ?_) (fun hc => ?_)
    · replace hf := (if_neg hc).symm.trans hf
      refine lv_iload_n E.1 E.2.1 dX11_count_40 rfl (lv_at hl 2 rfl) ?_
      refine lv_iconst (v := (-1 : Int32)) E.1 E.2.1 dX11_count_41 (by decide) ?_
      refine lv_icmp_ne (tgt := 57) E.1 E.2.1 dX11_count_42 (by decide) (fun hc => ?_) (fun hc => ?_)
      · replace hf := (if_neg hc).symm.trans hf
        refine lv_aload_n E.1 E.2.1 dX11_count_57 rfl (lv_at hl 0 rfl) ?_
        refine fg_c_X11_26_0 E hG dX11_count_58 ?_
        refine lv_iload_n E.1 E.2.1 dX11_count_61 rfl (lv_at hl 1 rfl) ?_
        refine lv_iload_n E.1 E.2.1 dX11_count_62 rfl (lv_at hl 2 rfl) ?_
        obtain ⟨r63, σ63, hcl, hf⟩ := bd_some hf
        refine cl_V (rest := []) (st1 := [.int r63]) (As := [.int x1, .int x2]) E hG (c_c_X0_countOf hcl) Wd_423 mi_X0_countOf ⟨Nat.le_of_ble_eq_true rfl, Nat.le_of_ble_eq_true rfl, Nat.zero_le _, Nat.zero_le _⟩ 2 6 rfl rfl rfl hl.1 rfl (Nat.le_of_ble_eq_true rfl) dX11_count_63 rfl (fun H locs hG => ?_)
        exact r_i E hr hlk hG hf dX11_count_66
      · replace hf := (if_pos hc).symm.trans hf
        refine lv_aload_n E.1 E.2.1 dX11_count_45 rfl (lv_at hl 0 rfl) ?_
        refine fg_c_X11_26_0 E hG dX11_count_46 ?_
        refine fg_c_X11_101_6 E hG dX11_count_49 ?_
        refine lv_iload_n E.1 E.2.1 dX11_count_52 rfl (lv_at hl 1 rfl) ?_
        obtain ⟨hin, hf⟩ := gd_some hf
        refine al_c_8 E hG hin dX11_count_53 ?_
        refine lv_goto (tgt := 66) E.1 E.2.1 dX11_count_54 (by decide) ?_
        exact r_i E hr hlk hG hf dX11_count_66
    · replace hf := (if_pos hc).symm.trans hf
      refine lv_iconst (v := (-1 : Int32)) E.1 E.2.1 dX11_count_38 (by decide) ?_
      exact r_i E hr hlk hG hf dX11_count_39

set_option maxHeartbeats 4000000 in
set_option maxRecDepth 100000 in
theorem c_c_X11_isSide {l : Launch} {D : va_G} {ad : Nat → Nat} {cy : ClassId} {σ : SS} {x0 : Int32} {r : Int32} {σ' : SS} (hf : f_c_X11_isSide σ x0 = some (r, σ')) : Ctr l D (cw ad cy) (cas ad) cy yX11_isSide cX11_isSide 1 (some FieldType.boolean) 1 22 [.int x0] σ (some (.int r)) σ' := by
  refine Ctr.of (cw_as ad cy) rfl (Nat.le_of_ble_eq_true rfl) (fun p e s m args below meth c ls E hr hlk hl hG => ?_)
  have hl : lv_has ls 1 [(0, .int x0)] := hl
  unfold f_c_X11_isSide at hf
  refine lv_iload_n E.1 E.2.1 dX11_isSide_0 rfl (lv_at hl 0 rfl) ?_
  refine lv_iconst (v := (0 : Int32)) E.1 E.2.1 dX11_isSide_1 (by decide) ?_
  refine lv_iconst (v := (1 : Int32)) E.1 E.2.1 dX11_isSide_2 (by decide) ?_
  obtain ⟨r3, σ3, hcl, hf⟩ := bd_some hf
  refine cl_S (rest := []) (st1 := [.int r3]) (As := [.int x0, .int (0 : Int32), .int (1 : Int32)]) E hG (c_c_X11_within hcl) Wd_365 mi_X11_within ⟨Nat.le_of_ble_eq_true rfl, Nat.le_of_ble_eq_true rfl, Nat.zero_le _, Nat.zero_le _⟩ rfl hl.1 rfl (Nat.le_of_ble_eq_true rfl) dX11_isSide_3 rfl (fun H locs hG => ?_)
  obtain ⟨hz, hf⟩ := gb_some hf
  exact r_z E hr hlk hG hf hz dX11_isSide_6

set_option maxHeartbeats 4000000 in
set_option maxRecDepth 100000 in
theorem k_c_X4_greatestPower_2 {p : Program} {l : Launch} {e : Env} {s : State} {m : MethodId} {args : Array Value} {below : List Frame} {meth : Method} {c : Code} {D : va_G} {ad : Nat → Nat} {cy : ClassId} {r : Int32} {σ' : SS} (E : CallFix p m c cX4_greatestPower 2 s args TT yX4_greatestPower.cls) (hr : meth.sig.returnType = (some FieldType.int)) (hlk : meth.locks = false) (g2 : SS → Int32 → Int32 → Option (Int32 × SS)) (hg2 : ∀ (σ : SS) (x0 : Int32) (x1 : Int32), g2 σ x0 x1 = some (r, σ') → At p l e 0 0 s m args below meth c D (cw ad cy) (cas ad) cy (some (.int r)) σ' 2 2 [(0, .int x0), (1, .int x1)] [] σ) : ∀ (σ : SS) (x0 : Int32) (x1 : Int32), f_c_X4_greatestPower_2 g2 σ x0 x1 = some (r, σ') → At p l e 0 0 s m args below meth c D (cw ad cy) (cas ad) cy (some (.int r)) σ' 2 2 [(0, .int x0), (1, .int x1)] [] σ := by
  intro σ x0 x1 hf H locs ls hG hl
  unfold f_c_X4_greatestPower_2 at hf
  refine lv_iload_n E.1 E.2.1 dX4_greatestPower_2 rfl (lv_at hl 1 rfl) ?_
  refine lv_bipush (v := (30 : Int32)) E.1 E.2.1 dX4_greatestPower_3 (by decide) ?_
  refine lv_icmp_ge (tgt := 23) E.1 E.2.1 dX4_greatestPower_5 (by decide) (fun hc => ?_) (fun hc => ?_)
  · replace hf := (if_pos hc).symm.trans hf
    refine lv_iload_n E.1 E.2.1 dX4_greatestPower_23 rfl (lv_at hl 1 rfl) ?_
    exact r_i E hr hlk hG hf dX4_greatestPower_24
  · replace hf := (if_neg hc).symm.trans hf
    refine lv_iconst (v := (1 : Int32)) E.1 E.2.1 dX4_greatestPower_8 (by decide) ?_
    refine lv_iload_n E.1 E.2.1 dX4_greatestPower_9 rfl (lv_at hl 1 rfl) ?_
    refine lv_iconst (v := (1 : Int32)) E.1 E.2.1 dX4_greatestPower_10 (by decide) ?_
    refine lv_iadd E.1 E.2.1 dX4_greatestPower_11 ?_
    refine lv_ishl E.1 E.2.1 dX4_greatestPower_12 ?_
    refine lv_iload_n E.1 E.2.1 dX4_greatestPower_13 rfl (lv_at hl 0 rfl) ?_
    refine lv_icmp_gt (tgt := 23) E.1 E.2.1 dX4_greatestPower_14 (by decide) (fun hc => ?_) (fun hc => ?_)
    · replace hf := (if_pos hc).symm.trans hf
      refine lv_iload_n E.1 E.2.1 dX4_greatestPower_23 rfl (lv_at hl 1 rfl) ?_
      exact r_i E hr hlk hG hf dX4_greatestPower_24
    · replace hf := (if_neg hc).symm.trans hf
      refine lv_iinc (v := (x1 + (1 : Int32))) (lv' := [(1, .int (x1 + (1 : Int32))), (0, .int x0)]) E.1 E.2.1 dX4_greatestPower_17 hl (k := 1) rfl rfl (by decide) rfl (fun ls hl => ?_)
      refine lv_goto (tgt := 2) E.1 E.2.1 dX4_greatestPower_20 (by decide) ?_
      exact hg2 _ _ _ hf _ _ _ hG (lv_sub hl [1, 0] rfl)

set_option maxHeartbeats 4000000 in
set_option maxRecDepth 100000 in
theorem c_c_X4_greatestPower {l : Launch} {D : va_G} {ad : Nat → Nat} {cy : ClassId} {σ : SS} {x0 : Int32} {r : Int32} {σ' : SS} (hf : f_c_X4_greatestPower σ x0 = some (r, σ')) : Ctr l D (cw ad cy) (cas ad) cy yX4_greatestPower cX4_greatestPower 2 (some FieldType.int) 0 0 [.int x0] σ (some (.int r)) σ' := by
  refine Ctr.of (cw_as ad cy) rfl (Nat.le_of_ble_eq_true rfl) (fun p e s m args below meth c ls E hr hlk hl hG => ?_)
  have hl : lv_has ls 2 [(0, .int x0)] := hl
  unfold f_c_X4_greatestPower at hf
  refine lv_iconst (v := (0 : Int32)) E.1 E.2.1 dX4_greatestPower_0 (by decide) ?_
  refine lv_istore_n (lv' := [(1, .int (0 : Int32)), (0, .int x0)]) E.1 E.2.1 dX4_greatestPower_1 rfl hl (by decide) rfl (fun ls hl => ?_)
  exact L2_at (P := fun σ x0 x1 => At p l e 0 0 s m args below meth c D (cw ad cy) (cas ad) cy (some (.int r)) σ' 2 2 [(0, .int x0), (1, .int x1)] [] σ) (fun g hg => k_c_X4_greatestPower_2 E hr hlk g hg) FUEL _ _ _ hf _ _ _ hG (lv_sub hl [1, 0] rfl)

set_option maxHeartbeats 4000000 in
set_option maxRecDepth 100000 in
theorem k_c_X4_fractionBits_40 {p : Program} {l : Launch} {e : Env} {s : State} {m : MethodId} {args : Array Value} {below : List Frame} {meth : Method} {c : Code} {D : va_G} {ad : Nat → Nat} {cy : ClassId} {r : Int32} {σ' : SS} (E : CallFix p m c cX4_fractionBits 11 s args TT yX4_fractionBits.cls) (hr : meth.sig.returnType = (some FieldType.int)) (hlk : meth.locks = false) (g40 : SS → Int64 → Int64 → Int64 → Int32 → Int32 → Option (Int32 × SS)) (hg40 : ∀ (σ : SS) (x3 : Int64) (x5 : Int64) (x7 : Int64) (x9 : Int32) (x10 : Int32), g40 σ x3 x5 x7 x9 x10 = some (r, σ') → At p l e 0 0 s m args below meth c D (cw ad cy) (cas ad) cy (some (.int r)) σ' 11 40 [(3, .long x3), (5, .long x5), (7, .long x7), (9, .int x9), (10, .int x10)] [] σ) : ∀ (σ : SS) (x3 : Int64) (x5 : Int64) (x7 : Int64) (x9 : Int32) (x10 : Int32), f_c_X4_fractionBits_40 g40 σ x3 x5 x7 x9 x10 = some (r, σ') → At p l e 0 0 s m args below meth c D (cw ad cy) (cas ad) cy (some (.int r)) σ' 11 40 [(3, .long x3), (5, .long x5), (7, .long x7), (9, .int x9), (10, .int x10)] [] σ := by
  intro σ x3 x5 x7 x9 x10 hf H locs ls hG hl
  unfold f_c_X4_fractionBits_40 at hf
  refine lv_iload E.1 E.2.1 dX4_fractionBits_40 (lv_at hl 4 rfl) ?_
  refine lv_bipush (v := (24 : Int32)) E.1 E.2.1 dX4_fractionBits_42 (by decide) ?_
  refine lv_icmp_ge (tgt := 92) E.1 E.2.1 dX4_fractionBits_44 (by decide) (fun hc => ?_) (fun hc => ?_)
  · replace hf := (if_pos hc).symm.trans hf
    refine lv_iload E.1 E.2.1 dX4_fractionBits_92 (lv_at hl 3 rfl) ?_
    exact r_i E hr hlk hG hf dX4_fractionBits_94
  · replace hf := (if_neg hc).symm.trans hf
    refine lv_lload E.1 E.2.1 dX4_fractionBits_47 (lv_at hl 2 rfl) ?_
    refine lv_lload E.1 E.2.1 dX4_fractionBits_49 (lv_at hl 2 rfl) ?_
    refine lv_lmul E.1 E.2.1 dX4_fractionBits_51 ?_
    refine lv_lload_n E.1 E.2.1 dX4_fractionBits_52 rfl (lv_at hl 0 rfl) ?_
    refine lv_ladd E.1 E.2.1 dX4_fractionBits_53 ?_
    refine lv_bipush (v := (30 : Int32)) E.1 E.2.1 dX4_fractionBits_54 (by decide) ?_
    refine lv_lshr E.1 E.2.1 dX4_fractionBits_56 rfl ?_
    refine lv_lstore (lv' := [(7, .long (((x7 * x7) + x3) >>> (Int32.toInt64 (30 : Int32) &&& 63))), (3, .long x3), (5, .long x5), (9, .int x9), (10, .int x10)]) E.1 E.2.1 dX4_fractionBits_57 hl (by decide) rfl (fun ls hl => ?_)
    refine lv_iconst (v := (2 : Int32)) E.1 E.2.1 dX4_fractionBits_59 (by decide) ?_
    refine lv_iload E.1 E.2.1 dX4_fractionBits_60 (lv_at hl 3 rfl) ?_
    refine lv_imul E.1 E.2.1 dX4_fractionBits_62 ?_
    refine lv_istore (lv' := [(9, .int ((2 : Int32) * x9)), (7, .long (((x7 * x7) + x3) >>> (Int32.toInt64 (30 : Int32) &&& 63))), (3, .long x3), (5, .long x5), (10, .int x10)]) E.1 E.2.1 dX4_fractionBits_63 hl (by decide) rfl (fun ls hl => ?_)
    refine lv_lload E.1 E.2.1 dX4_fractionBits_65 (lv_at hl 1 rfl) ?_
    refine lv_ldc2 E.1 E.2.1 E.2.2.2.1 (E.2.2.2.2 _ Wd_451) dX4_fractionBits_67 ?_
    refine W.lcmp E.1 E.2.1 dX4_fractionBits_70 ?_
    refine lv_if_lt (tgt := 86) E.1 E.2.1 dX4_fractionBits_71 (by decide) (fun hc => ?_) (fun hc => ?_)
    · replace hf := (if_pos hc).symm.trans hf
      refine lv_iinc (v := (x10 + (1 : Int32))) (lv' := [(10, .int (x10 + (1 : Int32))), (9, .int ((2 : Int32) * x9)), (7, .long (((x7 * x7) + x3) >>> (Int32.toInt64 (30 : Int32) &&& 63))), (3, .long x3), (5, .long x5)]) E.1 E.2.1 dX4_fractionBits_86 hl (k := 4) rfl rfl (by decide) rfl (fun ls hl => ?_)
      refine lv_goto (tgt := 40) E.1 E.2.1 dX4_fractionBits_89 (by decide) ?_
      exact hg40 _ _ _ _ _ _ hf _ _ _ hG (lv_sub hl [3, 4, 2, 1, 0] rfl)
    · replace hf := (if_neg hc).symm.trans hf
      refine lv_iinc (v := (((2 : Int32) * x9) + (1 : Int32))) (lv' := [(9, .int (((2 : Int32) * x9) + (1 : Int32))), (7, .long (((x7 * x7) + x3) >>> (Int32.toInt64 (30 : Int32) &&& 63))), (3, .long x3), (5, .long x5), (10, .int x10)]) E.1 E.2.1 dX4_fractionBits_74 hl (k := 0) rfl rfl (by decide) rfl (fun ls hl => ?_)
      refine lv_lload E.1 E.2.1 dX4_fractionBits_77 (lv_at hl 1 rfl) ?_
      refine lv_lload E.1 E.2.1 dX4_fractionBits_79 (lv_at hl 3 rfl) ?_
      refine lv_ladd E.1 E.2.1 dX4_fractionBits_81 ?_
      refine lv_iconst (v := (1 : Int32)) E.1 E.2.1 dX4_fractionBits_82 (by decide) ?_
      refine lv_lshr E.1 E.2.1 dX4_fractionBits_83 rfl ?_
      refine lv_lstore (lv' := [(7, .long (((((x7 * x7) + x3) >>> (Int32.toInt64 (30 : Int32) &&& 63)) + x5) >>> (Int32.toInt64 (1 : Int32) &&& 63))), (9, .int (((2 : Int32) * x9) + (1 : Int32))), (3, .long x3), (5, .long x5), (10, .int x10)]) E.1 E.2.1 dX4_fractionBits_84 hl (by decide) rfl (fun ls hl => ?_)
      refine lv_iinc (v := (x10 + (1 : Int32))) (lv' := [(10, .int (x10 + (1 : Int32))), (7, .long (((((x7 * x7) + x3) >>> (Int32.toInt64 (30 : Int32) &&& 63)) + x5) >>> (Int32.toInt64 (1 : Int32) &&& 63))), (9, .int (((2 : Int32) * x9) + (1 : Int32))), (3, .long x3), (5, .long x5)]) E.1 E.2.1 dX4_fractionBits_86 hl (k := 4) rfl rfl (by decide) rfl (fun ls hl => ?_)
      refine lv_goto (tgt := 40) E.1 E.2.1 dX4_fractionBits_89 (by decide) ?_
      exact hg40 _ _ _ _ _ _ hf _ _ _ hG (lv_sub hl [3, 4, 1, 2, 0] rfl)

set_option maxHeartbeats 4000000 in
set_option maxRecDepth 100000 in
theorem k_c_X4_fractionBits_23 {p : Program} {l : Launch} {e : Env} {s : State} {m : MethodId} {args : Array Value} {below : List Frame} {meth : Method} {c : Code} {D : va_G} {ad : Nat → Nat} {cy : ClassId} {r : Int32} {σ' : SS} (E : CallFix p m c cX4_fractionBits 11 s args TT yX4_fractionBits.cls) (hr : meth.sig.returnType = (some FieldType.int)) (hlk : meth.locks = false) : ∀ (σ : SS) (x0 : Int32) (x1 : Int32) (x3 : Int64) (y0 : Int64), f_c_X4_fractionBits_23 σ x0 x1 x3 y0 = some (r, σ') → At p l e 0 0 s m args below meth c D (cw ad cy) (cas ad) cy (some (.int r)) σ' 11 23 [(0, .int x0), (1, .int x1), (3, .long x3)] [.long y0] σ := by
  intro σ x0 x1 x3 y0 hf H locs ls hG hl
  unfold f_c_X4_fractionBits_23 at hf
  refine lv_lstore (lv' := [(5, .long y0), (0, .int x0), (1, .int x1), (3, .long x3)]) E.1 E.2.1 dX4_fractionBits_23 hl (by decide) rfl (fun ls hl => ?_)
  refine lv_iload_n E.1 E.2.1 dX4_fractionBits_25 rfl (lv_at hl 1 rfl) ?_
  refine lv_i2l E.1 E.2.1 dX4_fractionBits_26 rfl ?_
  refine lv_bipush (v := (30 : Int32)) E.1 E.2.1 dX4_fractionBits_27 (by decide) ?_
  refine lv_iload_n E.1 E.2.1 dX4_fractionBits_29 rfl (lv_at hl 2 rfl) ?_
  refine lv_isub E.1 E.2.1 dX4_fractionBits_30 ?_
  refine lv_lshl E.1 E.2.1 dX4_fractionBits_31 rfl ?_
  refine lv_lstore (lv' := [(7, .long ((Int32.toInt64 x0) <<< (Int32.toInt64 ((30 : Int32) - x1) &&& 63))), (5, .long y0), (0, .int x0), (1, .int x1), (3, .long x3)]) E.1 E.2.1 dX4_fractionBits_32 hl (by decide) rfl (fun ls hl => ?_)
  refine lv_iconst (v := (0 : Int32)) E.1 E.2.1 dX4_fractionBits_34 (by decide) ?_
  refine lv_istore (lv' := [(9, .int (0 : Int32)), (7, .long ((Int32.toInt64 x0) <<< (Int32.toInt64 ((30 : Int32) - x1) &&& 63))), (5, .long y0), (0, .int x0), (1, .int x1), (3, .long x3)]) E.1 E.2.1 dX4_fractionBits_35 hl (by decide) rfl (fun ls hl => ?_)
  refine lv_iconst (v := (0 : Int32)) E.1 E.2.1 dX4_fractionBits_37 (by decide) ?_
  refine lv_istore (lv' := [(10, .int (0 : Int32)), (9, .int (0 : Int32)), (7, .long ((Int32.toInt64 x0) <<< (Int32.toInt64 ((30 : Int32) - x1) &&& 63))), (5, .long y0), (0, .int x0), (1, .int x1), (3, .long x3)]) E.1 E.2.1 dX4_fractionBits_38 hl (by decide) rfl (fun ls hl => ?_)
  exact L5_at (P := fun σ x3 x5 x7 x9 x10 => At p l e 0 0 s m args below meth c D (cw ad cy) (cas ad) cy (some (.int r)) σ' 11 40 [(3, .long x3), (5, .long x5), (7, .long x7), (9, .int x9), (10, .int x10)] [] σ) (fun g hg => k_c_X4_fractionBits_40 E hr hlk g hg) FUEL _ _ _ _ _ _ hf _ _ _ hG (lv_sub hl [6, 3, 2, 1, 0] rfl)

set_option maxHeartbeats 4000000 in
set_option maxRecDepth 100000 in
theorem k_c_X4_fractionBits_12 {p : Program} {l : Launch} {e : Env} {s : State} {m : MethodId} {args : Array Value} {below : List Frame} {meth : Method} {c : Code} {D : va_G} {ad : Nat → Nat} {cy : ClassId} {r : Int32} {σ' : SS} (E : CallFix p m c cX4_fractionBits 11 s args TT yX4_fractionBits.cls) (hr : meth.sig.returnType = (some FieldType.int)) (hlk : meth.locks = false) : ∀ (σ : SS) (x0 : Int32) (x1 : Int32) (x2 : Int32) (y0 : Int64), f_c_X4_fractionBits_12 σ x0 x1 x2 y0 = some (r, σ') → At p l e 0 0 s m args below meth c D (cw ad cy) (cas ad) cy (some (.int r)) σ' 11 12 [(0, .int x0), (1, .int x1), (2, .int x2)] [.long y0] σ := by
  intro σ x0 x1 x2 y0 hf H locs ls hG hl
  unfold f_c_X4_fractionBits_12 at hf
  refine lv_lstore_n (lv' := [(3, .long y0), (0, .int x0), (1, .int x1), (2, .int x2)]) E.1 E.2.1 dX4_fractionBits_12 rfl hl (by decide) rfl (fun ls hl => ?_)
  refine lv_iload_n E.1 E.2.1 dX4_fractionBits_13 rfl (lv_at hl 3 rfl) ?_
  refine lv_iconst (v := (1 : Int32)) E.1 E.2.1 dX4_fractionBits_14 (by decide) ?_
  refine lv_icmp_ne (tgt := 22) E.1 E.2.1 dX4_fractionBits_15 (by decide) (fun hc => ?_) (fun hc => ?_)
  · replace hf := (if_neg hc).symm.trans hf
    refine lv_lconst (v := (0 : Int64)) E.1 E.2.1 dX4_fractionBits_22 (by decide) ?_
    exact k_c_X4_fractionBits_23 E hr hlk _ _ _ _ _ hf _ _ _ hG (lv_sub hl [1, 2, 0] rfl)
  · replace hf := (if_pos hc).symm.trans hf
    refine lv_lconst (v := (1 : Int64)) E.1 E.2.1 dX4_fractionBits_18 (by decide) ?_
    refine lv_goto (tgt := 23) E.1 E.2.1 dX4_fractionBits_19 (by decide) ?_
    exact k_c_X4_fractionBits_23 E hr hlk _ _ _ _ _ hf _ _ _ hG (lv_sub hl [1, 2, 0] rfl)

set_option maxHeartbeats 4000000 in
set_option maxRecDepth 100000 in
theorem c_c_X4_fractionBits {l : Launch} {D : va_G} {ad : Nat → Nat} {cy : ClassId} {σ : SS} {x0 : Int32} {x1 : Int32} {x2 : Int32} {r : Int32} {σ' : SS} (hf : f_c_X4_fractionBits σ x0 x1 x2 = some (r, σ')) : Ctr l D (cw ad cy) (cas ad) cy yX4_fractionBits cX4_fractionBits 11 (some FieldType.int) 0 0 [.int x0, .int x1, .int x2] σ (some (.int r)) σ' := by
  refine Ctr.of (cw_as ad cy) rfl (Nat.le_of_ble_eq_true rfl) (fun p e s m args below meth c ls E hr hlk hl hG => ?_)
  have hl : lv_has ls 11 [(0, .int x0), (1, .int x1), (2, .int x2)] := hl
  unfold f_c_X4_fractionBits at hf
  refine lv_iload_n E.1 E.2.1 dX4_fractionBits_0 rfl (lv_at hl 2 rfl) ?_
  refine lv_iconst (v := (1 : Int32)) E.1 E.2.1 dX4_fractionBits_1 (by decide) ?_
  refine lv_icmp_ne (tgt := 11) E.1 E.2.1 dX4_fractionBits_2 (by decide) (fun hc => ?_) (fun hc => ?_)
  · replace hf := (if_neg hc).symm.trans hf
    refine lv_lconst (v := (0 : Int64)) E.1 E.2.1 dX4_fractionBits_11 (by decide) ?_
    exact k_c_X4_fractionBits_12 E hr hlk _ _ _ _ _ hf _ _ _ hG (lv_sub hl [0, 1, 2] rfl)
  · replace hf := (if_pos hc).symm.trans hf
    refine lv_ldc2 E.1 E.2.1 E.2.2.2.1 (E.2.2.2.2 _ Wd_450) dX4_fractionBits_5 ?_
    refine lv_goto (tgt := 12) E.1 E.2.1 dX4_fractionBits_8 (by decide) ?_
    exact k_c_X4_fractionBits_12 E hr hlk _ _ _ _ _ hf _ _ _ hG (lv_sub hl [0, 1, 2] rfl)

set_option maxHeartbeats 4000000 in
set_option maxRecDepth 100000 in
theorem k_c_X4_fraction_55 {p : Program} {l : Launch} {e : Env} {s : State} {m : MethodId} {args : Array Value} {below : List Frame} {meth : Method} {c : Code} {D : va_G} {ad : Nat → Nat} {cy : ClassId} {r : Int32} {σ' : SS} (E : CallFix p m c cX4_fraction 5 s args TT yX4_fraction.cls) (hr : meth.sig.returnType = (some FieldType.int)) (hlk : meth.locks = false) : ∀ (σ : SS) (x4 : Int32), f_c_X4_fraction_55 σ x4 = some (r, σ') → At p l e 1 30 s m args below meth c D (cw ad cy) (cas ad) cy (some (.int r)) σ' 5 55 [(0, .ref (ad 13)), (4, .int x4)] [] σ := by
  intro σ x4 hf H locs ls hG hl
  unfold f_c_X4_fraction_55 at hf
  refine lv_aload_n E.1 E.2.1 dX4_fraction_55 rfl (lv_at hl 0 rfl) ?_
  refine fg_c_X4_11_13 E hG dX4_fraction_56 ?_
  refine lv_iload E.1 E.2.1 dX4_fraction_59 (lv_at hl 1 rfl) ?_
  obtain ⟨hin, hf⟩ := gd_some hf
  refine al_c_14 E hG hin dX4_fraction_61 ?_
  refine lv_iconst (v := (1 : Int32)) E.1 E.2.1 dX4_fraction_62 (by decide) ?_
  refine lv_isub E.1 E.2.1 dX4_fraction_63 ?_
  exact r_i E hr hlk hG hf dX4_fraction_64

set_option maxHeartbeats 4000000 in
set_option maxRecDepth 100000 in
theorem k_c_X4_fraction_28 {p : Program} {l : Launch} {e : Env} {s : State} {m : MethodId} {args : Array Value} {below : List Frame} {meth : Method} {c : Code} {D : va_G} {ad : Nat → Nat} {cy : ClassId} {r : Int32} {σ' : SS} (E : CallFix p m c cX4_fraction 5 s args TT yX4_fraction.cls) (hr : meth.sig.returnType = (some FieldType.int)) (hlk : meth.locks = false) : ∀ (σ : SS) (x1 : Int32) (x2 : Int32) (x3 : Int32) (y0 : Int32), f_c_X4_fraction_28 σ x1 x2 x3 y0 = some (r, σ') → At p l e 1 30 s m args below meth c D (cw ad cy) (cas ad) cy (some (.int r)) σ' 5 28 [(0, .ref (ad 13)), (1, .int x1), (2, .int x2), (3, .int x3)] [.int y0] σ := by
  intro σ x1 x2 x3 y0 hf H locs ls hG hl
  unfold f_c_X4_fraction_28 at hf
  refine lv_istore (lv' := [(4, .int y0), (0, .ref (ad 13)), (1, .int x1), (2, .int x2), (3, .int x3)]) E.1 E.2.1 dX4_fraction_28 hl (by decide) rfl (fun ls hl => ?_)
  refine lv_aload_n E.1 E.2.1 dX4_fraction_30 rfl (lv_at hl 1 rfl) ?_
  refine fg_c_X4_11_13 E hG dX4_fraction_31 ?_
  refine lv_iload E.1 E.2.1 dX4_fraction_34 (lv_at hl 0 rfl) ?_
  obtain ⟨hin, hf⟩ := gd_some hf
  refine al_c_14 E hG hin dX4_fraction_36 ?_
  refine lv_if_ne (tgt := 55) E.1 E.2.1 dX4_fraction_37 (by decide) (fun hc => ?_) (fun hc => ?_)
  · replace hf := (if_neg hc).symm.trans hf
    exact k_c_X4_fraction_55 E hr hlk _ _ hf _ _ _ hG (lv_sub hl [1, 0] rfl)
  · replace hf := (if_pos hc).symm.trans hf
    refine lv_aload_n E.1 E.2.1 dX4_fraction_40 rfl (lv_at hl 1 rfl) ?_
    refine fg_c_X4_11_13 E hG dX4_fraction_41 ?_
    refine lv_iload E.1 E.2.1 dX4_fraction_44 (lv_at hl 0 rfl) ?_
    refine lv_iload_n E.1 E.2.1 dX4_fraction_46 rfl (lv_at hl 2 rfl) ?_
    refine lv_iload_n E.1 E.2.1 dX4_fraction_47 rfl (lv_at hl 3 rfl) ?_
    refine lv_iload_n E.1 E.2.1 dX4_fraction_48 rfl (lv_at hl 4 rfl) ?_
    obtain ⟨r49, σ49, hcl, hf⟩ := bd_some hf
    refine cl_S (rest := [.int y0, .ref (ad 14)]) (st1 := [.int r49, .int y0, .ref (ad 14)]) (As := [.int x1, .int x2, .int x3]) E hG (c_c_X4_fractionBits hcl) Wd_447 mi_X4_fractionBits ⟨Nat.le_of_ble_eq_true rfl, Nat.le_of_ble_eq_true rfl, Nat.zero_le _, Nat.zero_le _⟩ rfl hl.1 rfl (Nat.le_of_ble_eq_true rfl) dX4_fraction_49 rfl (fun H locs hG => ?_)
    refine lv_iconst (v := (1 : Int32)) E.1 E.2.1 dX4_fraction_52 (by decide) ?_
    refine lv_iadd E.1 E.2.1 dX4_fraction_53 ?_
    obtain ⟨hin, hf⟩ := gd_some hf
    refine as_c_14 E hG hin dX4_fraction_54 (fun H locs hG => ?_)
    exact k_c_X4_fraction_55 E hr hlk _ _ hf _ _ _ hG (lv_sub hl [1, 0] rfl)

set_option maxHeartbeats 4000000 in
set_option maxRecDepth 100000 in
theorem c_c_X4_fraction {l : Launch} {D : va_G} {ad : Nat → Nat} {cy : ClassId} {σ : SS} {x1 : Int32} {x2 : Int32} {x3 : Int32} {r : Int32} {σ' : SS} (hf : f_c_X4_fraction σ x1 x2 x3 = some (r, σ')) : Ctr l D (cw ad cy) (cas ad) cy yX4_fraction cX4_fraction 5 (some FieldType.int) 1 30 [.ref (ad 13), .int x1, .int x2, .int x3] σ (some (.int r)) σ' := by
  refine Ctr.of (cw_as ad cy) rfl (Nat.le_of_ble_eq_true rfl) (fun p e s m args below meth c ls E hr hlk hl hG => ?_)
  have hl : lv_has ls 5 [(0, .ref (ad 13)), (1, .int x1), (2, .int x2), (3, .int x3)] := hl
  unfold f_c_X4_fraction at hf
  refine lv_iload_n E.1 E.2.1 dX4_fraction_0 rfl (lv_at hl 1 rfl) ?_
  refine lv_sipush (v := (416 : Int32)) E.1 E.2.1 dX4_fraction_1 (by decide) ?_
  refine lv_icmp_lt (tgt := 14) E.1 E.2.1 dX4_fraction_4 (by decide) (fun hc => ?_) (fun hc => ?_)
  · replace hf := (if_pos hc).symm.trans hf
    refine lv_iload_n E.1 E.2.1 dX4_fraction_14 rfl (lv_at hl 3 rfl) ?_
    refine lv_iconst (v := (1 : Int32)) E.1 E.2.1 dX4_fraction_15 (by decide) ?_
    refine lv_icmp_ne (tgt := 27) E.1 E.2.1 dX4_fraction_16 (by decide) (fun hc => ?_) (fun hc => ?_)
    · replace hf := (if_neg hc).symm.trans hf
      refine lv_iload_n E.1 E.2.1 dX4_fraction_27 rfl (lv_at hl 1 rfl) ?_
      exact k_c_X4_fraction_28 E hr hlk _ _ _ _ _ hf _ _ _ hG (lv_sub hl [0, 1, 2, 3] rfl)
    · replace hf := (if_pos hc).symm.trans hf
      refine lv_sipush (v := (416 : Int32)) E.1 E.2.1 dX4_fraction_19 (by decide) ?_
      refine lv_iload_n E.1 E.2.1 dX4_fraction_22 rfl (lv_at hl 1 rfl) ?_
      refine lv_iadd E.1 E.2.1 dX4_fraction_23 ?_
      refine lv_goto (tgt := 28) E.1 E.2.1 dX4_fraction_24 (by decide) ?_
      exact k_c_X4_fraction_28 E hr hlk _ _ _ _ _ hf _ _ _ hG (lv_sub hl [0, 1, 2, 3] rfl)
  · replace hf := (if_neg hc).symm.trans hf
    refine lv_iload_n E.1 E.2.1 dX4_fraction_7 rfl (lv_at hl 1 rfl) ?_
    refine lv_iload_n E.1 E.2.1 dX4_fraction_8 rfl (lv_at hl 2 rfl) ?_
    refine lv_iload_n E.1 E.2.1 dX4_fraction_9 rfl (lv_at hl 3 rfl) ?_
    obtain ⟨r10, σ10, hcl, hf⟩ := bd_some hf
    refine cl_S (rest := []) (st1 := [.int r10]) (As := [.int x1, .int x2, .int x3]) E hG (c_c_X4_fractionBits hcl) Wd_447 mi_X4_fractionBits ⟨Nat.le_of_ble_eq_true rfl, Nat.le_of_ble_eq_true rfl, Nat.zero_le _, Nat.zero_le _⟩ rfl hl.1 rfl (Nat.le_of_ble_eq_true rfl) dX4_fraction_10 rfl (fun H locs hG => ?_)
    exact r_i E hr hlk hG hf dX4_fraction_13

set_option maxHeartbeats 4000000 in
set_option maxRecDepth 100000 in
theorem c_c_X4_end {l : Launch} {D : va_G} {ad : Nat → Nat} {cy : ClassId} {σ : SS} {x1 : Int32} {x2 : Int32} {x3 : Int32} {r : Int64} {σ' : SS} (hf : f_c_X4_end σ x1 x2 x3 = some (r, σ')) : Ctr l D (cw ad cy) (cas ad) cy yX4_end cX4_end 9 (some FieldType.long) 2 54 [.ref (ad 13), .int x1, .int x2, .int x3] σ (some (.long r)) σ' := by
  refine Ctr.of (cw_as ad cy) rfl (Nat.le_of_ble_eq_true rfl) (fun p e s m args below meth c ls E hr hlk hl hG => ?_)
  have hl : lv_has ls 9 [(0, .ref (ad 13)), (1, .int x1), (2, .int x2), (3, .int x3)] := hl
  unfold f_c_X4_end at hf
  refine lv_iload_n E.1 E.2.1 dX4_end_0 rfl (lv_at hl 1 rfl) ?_
  obtain ⟨r1, σ1, hcl, hf⟩ := bd_some hf
  refine cl_S (rest := []) (st1 := [.int r1]) (As := [.int x1]) E hG (c_c_X4_greatestPower hcl) Wd_440 mi_X4_greatestPower ⟨Nat.le_of_ble_eq_true rfl, Nat.le_of_ble_eq_true rfl, Nat.zero_le _, Nat.zero_le _⟩ rfl hl.1 rfl (Nat.le_of_ble_eq_true rfl) dX4_end_1 rfl (fun H locs hG => ?_)
  refine lv_istore (lv' := [(4, .int r1), (0, .ref (ad 13)), (1, .int x1), (2, .int x2), (3, .int x3)]) E.1 E.2.1 dX4_end_4 hl (by decide) rfl (fun ls hl => ?_)
  refine lv_iload E.1 E.2.1 dX4_end_6 (lv_at hl 0 rfl) ?_
  refine lv_i2l E.1 E.2.1 dX4_end_8 rfl ?_
  refine lv_iload_n E.1 E.2.1 dX4_end_9 rfl (lv_at hl 3 rfl) ?_
  refine lv_lshl E.1 E.2.1 dX4_end_10 rfl ?_
  refine lv_lstore (lv' := [(5, .long ((Int32.toInt64 r1) <<< (Int32.toInt64 x2 &&& 63))), (4, .int r1), (0, .ref (ad 13)), (1, .int x1), (2, .int x2), (3, .int x3)]) E.1 E.2.1 dX4_end_11 hl (by decide) rfl (fun ls hl => ?_)
  refine lv_iload_n E.1 E.2.1 dX4_end_13 rfl (lv_at hl 3 rfl) ?_
  refine lv_iconst (v := (1 : Int32)) E.1 E.2.1 dX4_end_14 (by decide) ?_
  refine lv_iload E.1 E.2.1 dX4_end_15 (lv_at hl 1 rfl) ?_
  refine lv_ishl E.1 E.2.1 dX4_end_17 ?_
  refine lv_icmp_ne (tgt := 24) E.1 E.2.1 dX4_end_18 (by decide) (fun hc => ?_) (fun hc => ?_)
  · replace hf := (if_neg hc).symm.trans hf
    refine lv_aload_n E.1 E.2.1 dX4_end_24 rfl (lv_at hl 2 rfl) ?_
    refine lv_iload_n E.1 E.2.1 dX4_end_25 rfl (lv_at hl 3 rfl) ?_
    refine lv_iload E.1 E.2.1 dX4_end_26 (lv_at hl 1 rfl) ?_
    refine lv_iload_n E.1 E.2.1 dX4_end_28 rfl (lv_at hl 5 rfl) ?_
    obtain ⟨r29, σ29, hcl, hf⟩ := bd_some hf
    refine cl_V (rest := []) (st1 := [.int r29]) (As := [.int x1, .int r1, .int x3]) E hG (c_c_X4_fraction hcl) Wd_443 mi_X4_fraction ⟨Nat.le_of_ble_eq_true rfl, Nat.le_of_ble_eq_true rfl, Nat.zero_le _, Nat.zero_le _⟩ 6 13 rfl rfl rfl hl.1 rfl (Nat.le_of_ble_eq_true rfl) dX4_end_29 rfl (fun H locs hG => ?_)
    refine lv_bipush (v := (24 : Int32)) E.1 E.2.1 dX4_end_32 (by decide) ?_
    refine lv_iload_n E.1 E.2.1 dX4_end_34 rfl (lv_at hl 4 rfl) ?_
    refine lv_isub E.1 E.2.1 dX4_end_35 ?_
    refine lv_ishr E.1 E.2.1 dX4_end_36 ?_
    refine lv_i2l E.1 E.2.1 dX4_end_37 rfl ?_
    refine lv_lstore (lv' := [(7, .long (Int32.toInt64 (r29 >>> (((24 : Int32) - x2) &&& 31)))), (5, .long ((Int32.toInt64 r1) <<< (Int32.toInt64 x2 &&& 63))), (4, .int r1), (0, .ref (ad 13)), (1, .int x1), (2, .int x2), (3, .int x3)]) E.1 E.2.1 dX4_end_38 hl (by decide) rfl (fun ls hl => ?_)
    refine lv_iload_n E.1 E.2.1 dX4_end_40 rfl (lv_at hl 6 rfl) ?_
    refine lv_iconst (v := (1 : Int32)) E.1 E.2.1 dX4_end_41 (by decide) ?_
    refine lv_icmp_ne (tgt := 55) E.1 E.2.1 dX4_end_42 (by decide) (fun hc => ?_) (fun hc => ?_)
    · replace hf := (if_neg hc).symm.trans hf
      refine lv_lload E.1 E.2.1 dX4_end_55 (lv_at hl 1 rfl) ?_
      refine lv_lload E.1 E.2.1 dX4_end_57 (lv_at hl 0 rfl) ?_
      refine lv_ladd E.1 E.2.1 dX4_end_59 ?_
      exact r_l E hr hlk hG hf dX4_end_60
    · replace hf := (if_pos hc).symm.trans hf
      refine lv_lload E.1 E.2.1 dX4_end_45 (lv_at hl 1 rfl) ?_
      refine lv_lload E.1 E.2.1 dX4_end_47 (lv_at hl 0 rfl) ?_
      refine lv_ladd E.1 E.2.1 dX4_end_49 ?_
      refine lv_lconst (v := (1 : Int64)) E.1 E.2.1 dX4_end_50 (by decide) ?_
      refine lv_ladd E.1 E.2.1 dX4_end_51 ?_
      refine lv_goto (tgt := 60) E.1 E.2.1 dX4_end_52 (by decide) ?_
      exact r_l E hr hlk hG hf dX4_end_60
  · replace hf := (if_pos hc).symm.trans hf
    refine lv_lload E.1 E.2.1 dX4_end_21 (lv_at hl 0 rfl) ?_
    exact r_l E hr hlk hG hf dX4_end_23

set_option maxHeartbeats 4000000 in
set_option maxRecDepth 100000 in
theorem c_c_X11_log {l : Launch} {D : va_G} {ad : Nat → Nat} {cy : ClassId} {σ : SS} {x1 : Int32} {x2 : Int32} {x3 : Int32} {r : Int64} {σ' : SS} (hf : f_c_X11_log σ x1 x2 x3 = some (r, σ')) : Ctr l D (cw ad cy) (cas ad) cy yX11_log cX11_log 4 (some FieldType.long) 3 82 [.ref (ad 0), .int x1, .int x2, .int x3] σ (some (.long r)) σ' := by
  refine Ctr.of (cw_as ad cy) rfl (Nat.le_of_ble_eq_true rfl) (fun p e s m args below meth c ls E hr hlk hl hG => ?_)
  have hl : lv_has ls 4 [(0, .ref (ad 0)), (1, .int x1), (2, .int x2), (3, .int x3)] := hl
  unfold f_c_X11_log at hf
  refine lv_iload_n E.1 E.2.1 dX11_log_0 rfl (lv_at hl 1 rfl) ?_
  refine lv_iconst (v := (1 : Int32)) E.1 E.2.1 dX11_log_1 (by decide) ?_
  refine lv_ldc E.1 E.2.1 E.2.2.2.1 (E.2.2.2.2 _ Wd_431) dX11_log_2 ?_
  obtain ⟨r4, σ4, hcl, hf⟩ := bd_some hf
  refine cl_S (rest := []) (st1 := [.int r4]) (As := [.int x1, .int (1 : Int32), .int (1048576 : Int32)]) E hG (c_c_X11_within hcl) Wd_365 mi_X11_within ⟨Nat.le_of_ble_eq_true rfl, Nat.le_of_ble_eq_true rfl, Nat.zero_le _, Nat.zero_le _⟩ rfl hl.1 rfl (Nat.le_of_ble_eq_true rfl) dX11_log_4 rfl (fun H locs hG => ?_)
  refine lv_if_eq (tgt := 27) E.1 E.2.1 dX11_log_7 (by decide) (fun hc => ?_) (fun hc => ?_)
  · replace hf := (if_pos hc).symm.trans hf
    refine lv_ldc2 E.1 E.2.1 E.2.2.2.1 (E.2.2.2.2 _ Wd_435) dX11_log_27 ?_
    exact r_l E hr hlk hG hf dX11_log_30
  · replace hf := (if_neg hc).symm.trans hf
    refine lv_iload_n E.1 E.2.1 dX11_log_10 rfl (lv_at hl 2 rfl) ?_
    refine lv_iconst (v := (0 : Int32)) E.1 E.2.1 dX11_log_11 (by decide) ?_
    refine lv_bipush (v := (24 : Int32)) E.1 E.2.1 dX11_log_12 (by decide) ?_
    obtain ⟨r14, σ14, hcl, hf⟩ := bd_some hf
    refine cl_S (rest := []) (st1 := [.int r14]) (As := [.int x2, .int (0 : Int32), .int (24 : Int32)]) E hG (c_c_X11_within hcl) Wd_365 mi_X11_within ⟨Nat.le_of_ble_eq_true rfl, Nat.le_of_ble_eq_true rfl, Nat.zero_le _, Nat.zero_le _⟩ rfl hl.1 rfl (Nat.le_of_ble_eq_true rfl) dX11_log_14 rfl (fun H locs hG => ?_)
    refine lv_if_eq (tgt := 27) E.1 E.2.1 dX11_log_17 (by decide) (fun hc => ?_) (fun hc => ?_)
    · replace hf := (if_pos hc).symm.trans hf
      refine lv_ldc2 E.1 E.2.1 E.2.2.2.1 (E.2.2.2.2 _ Wd_435) dX11_log_27 ?_
      exact r_l E hr hlk hG hf dX11_log_30
    · replace hf := (if_neg hc).symm.trans hf
      refine lv_iload_n E.1 E.2.1 dX11_log_20 rfl (lv_at hl 3 rfl) ?_
      obtain ⟨r21, σ21, hcl, hf⟩ := bd_some hf
      refine cl_S (rest := []) (st1 := [.int r21]) (As := [.int x3]) E hG (c_c_X11_isSide hcl) Wd_432 mi_X11_isSide ⟨Nat.le_of_ble_eq_true rfl, Nat.le_of_ble_eq_true rfl, Nat.zero_le _, Nat.zero_le _⟩ rfl hl.1 rfl (Nat.le_of_ble_eq_true rfl) dX11_log_21 rfl (fun H locs hG => ?_)
      refine lv_if_ne (tgt := 31) E.1 E.2.1 dX11_log_24 (by decide) (fun hc => ?_) (fun hc => ?_)
      · replace hf := (if_neg hc).symm.trans hf
        refine lv_aload_n E.1 E.2.1 dX11_log_31 rfl (lv_at hl 0 rfl) ?_
        refine fg_c_X11_33_0 E hG dX11_log_32 ?_
        refine fg_c_X11_114_12 E hG dX11_log_35 ?_
        refine lv_iload_n E.1 E.2.1 dX11_log_38 rfl (lv_at hl 1 rfl) ?_
        refine lv_iload_n E.1 E.2.1 dX11_log_39 rfl (lv_at hl 2 rfl) ?_
        refine lv_iload_n E.1 E.2.1 dX11_log_40 rfl (lv_at hl 3 rfl) ?_
        obtain ⟨r41, σ41, hcl, hf⟩ := bd_some hf
        refine cl_V (rest := []) (st1 := [.long r41]) (As := [.int x1, .int x2, .int x3]) E hG (c_c_X4_end hcl) Wd_436 mi_X4_end ⟨Nat.le_of_ble_eq_true rfl, Nat.le_of_ble_eq_true rfl, Nat.zero_le _, Nat.zero_le _⟩ 6 13 rfl rfl rfl hl.1 rfl (Nat.le_of_ble_eq_true rfl) dX11_log_41 rfl (fun H locs hG => ?_)
        exact r_l E hr hlk hG hf dX11_log_44
      · replace hf := (if_pos hc).symm.trans hf
        refine lv_ldc2 E.1 E.2.1 E.2.2.2.1 (E.2.2.2.2 _ Wd_435) dX11_log_27 ?_
        exact r_l E hr hlk hG hf dX11_log_30

set_option maxHeartbeats 4000000 in
set_option maxRecDepth 100000 in
theorem c_c_X9_replace {l : Launch} {D : va_G} {ad : Nat → Nat} {cy : ClassId} {σ : SS} {x1 : Int32} {x2 : Int32} {r : Int32} {σ' : SS} (hf : f_c_X9_replace σ x1 x2 = some (r, σ')) : Ctr l D (cw ad cy) (cas ad) cy yX9_replace cX9_replace 4 (some FieldType.int) 0 0 [.ref (ad 4), .int x1, .int x2] σ (some (.int r)) σ' := by
  refine Ctr.of (cw_as ad cy) rfl (Nat.le_of_ble_eq_true rfl) (fun p e s m args below meth c ls E hr hlk hl hG => ?_)
  have hl : lv_has ls 4 [(0, .ref (ad 4)), (1, .int x1), (2, .int x2)] := hl
  unfold f_c_X9_replace at hf
  refine lv_aload_n E.1 E.2.1 dX9_replace_0 rfl (lv_at hl 0 rfl) ?_
  refine fg_c_X9_9_4 E hG dX9_replace_1 ?_
  refine lv_iload_n E.1 E.2.1 dX9_replace_4 rfl (lv_at hl 1 rfl) ?_
  obtain ⟨hin, hf⟩ := gd_some hf
  refine al_c_5 E hG hin dX9_replace_5 ?_
  refine lv_istore_n (lv' := [(3, .int (σ.2 2 (Int32.toNatClampNeg x1))), (0, .ref (ad 4)), (1, .int x1), (2, .int x2)]) E.1 E.2.1 dX9_replace_6 rfl hl (by decide) rfl (fun ls hl => ?_)
  refine lv_aload_n E.1 E.2.1 dX9_replace_7 rfl (lv_at hl 1 rfl) ?_
  refine fg_c_X9_9_4 E hG dX9_replace_8 ?_
  refine lv_iload_n E.1 E.2.1 dX9_replace_11 rfl (lv_at hl 2 rfl) ?_
  refine lv_iload_n E.1 E.2.1 dX9_replace_12 rfl (lv_at hl 3 rfl) ?_
  obtain ⟨hin, hf⟩ := gd_some hf
  refine as_c_5 E hG hin dX9_replace_13 (fun H locs hG => ?_)
  refine lv_aload_n E.1 E.2.1 dX9_replace_14 rfl (lv_at hl 1 rfl) ?_
  refine lv_dup E.1 E.2.1 dX9_replace_15 rfl ?_
  refine fg_c_X9_15_4 E hG dX9_replace_16 ?_
  refine lv_iload_n E.1 E.2.1 dX9_replace_19 rfl (lv_at hl 3 rfl) ?_
  refine lv_iload_n E.1 E.2.1 dX9_replace_20 rfl (lv_at hl 0 rfl) ?_
  refine lv_isub E.1 E.2.1 dX9_replace_21 ?_
  refine lv_iadd E.1 E.2.1 dX9_replace_22 ?_
  refine fp_c_X9_15_4 E hG dX9_replace_23 (fun H locs hG => ?_)
  refine lv_iload_n E.1 E.2.1 dX9_replace_26 rfl (lv_at hl 0 rfl) ?_
  exact r_i E hr hlk hG hf dX9_replace_27

set_option maxHeartbeats 4000000 in
set_option maxRecDepth 100000 in
theorem c_c_X11_weight {l : Launch} {D : va_G} {ad : Nat → Nat} {cy : ClassId} {σ : SS} {x1 : Int32} {x2 : Int32} {r : Int32} {σ' : SS} (hf : f_c_X11_weight σ x1 x2 = some (r, σ')) : Ctr l D (cw ad cy) (cas ad) cy yX11_weight cX11_weight 3 (some FieldType.int) 2 42 [.ref (ad 0), .int x1, .int x2] σ (some (.int r)) σ' := by
  refine Ctr.of (cw_as ad cy) rfl (Nat.le_of_ble_eq_true rfl) (fun p e s m args below meth c ls E hr hlk hl hG => ?_)
  have hl : lv_has ls 3 [(0, .ref (ad 0)), (1, .int x1), (2, .int x2)] := hl
  unfold f_c_X11_weight at hf
  refine lv_iload_n E.1 E.2.1 dX11_weight_0 rfl (lv_at hl 1 rfl) ?_
  obtain ⟨r1, σ1, hcl, hf⟩ := bd_some hf
  refine cl_S (rest := []) (st1 := [.int r1]) (As := [.int x1]) E hG (c_c_X11_isSign hcl) Wd_362 mi_X11_isSign ⟨Nat.le_of_ble_eq_true rfl, Nat.le_of_ble_eq_true rfl, Nat.zero_le _, Nat.zero_le _⟩ rfl hl.1 rfl (Nat.le_of_ble_eq_true rfl) dX11_weight_1 rfl (fun H locs hG => ?_)
  refine lv_if_eq (tgt := 18) E.1 E.2.1 dX11_weight_4 (by decide) (fun hc => ?_) (fun hc => ?_)
  · replace hf := (if_pos hc).symm.trans hf
    refine lv_iconst (v := (-1 : Int32)) E.1 E.2.1 dX11_weight_18 (by decide) ?_
    exact r_i E hr hlk hG hf dX11_weight_19
  · replace hf := (if_neg hc).symm.trans hf
    refine lv_iload_n E.1 E.2.1 dX11_weight_7 rfl (lv_at hl 2 rfl) ?_
    refine lv_iconst (v := (0 : Int32)) E.1 E.2.1 dX11_weight_8 (by decide) ?_
    refine lv_sipush (v := (1000 : Int32)) E.1 E.2.1 dX11_weight_9 (by decide) ?_
    obtain ⟨r12, σ12, hcl, hf⟩ := bd_some hf
    refine cl_S (rest := []) (st1 := [.int r12]) (As := [.int x2, .int (0 : Int32), .int (1000 : Int32)]) E hG (c_c_X11_within hcl) Wd_365 mi_X11_within ⟨Nat.le_of_ble_eq_true rfl, Nat.le_of_ble_eq_true rfl, Nat.zero_le _, Nat.zero_le _⟩ rfl hl.1 rfl (Nat.le_of_ble_eq_true rfl) dX11_weight_12 rfl (fun H locs hG => ?_)
    refine lv_if_ne (tgt := 20) E.1 E.2.1 dX11_weight_15 (by decide) (fun hc => ?_) (fun hc => ?_)
    · replace hf := (if_neg hc).symm.trans hf
      refine lv_aload_n E.1 E.2.1 dX11_weight_20 rfl (lv_at hl 0 rfl) ?_
      refine fg_c_X11_19_0 E hG dX11_weight_21 ?_
      refine lv_iload_n E.1 E.2.1 dX11_weight_24 rfl (lv_at hl 1 rfl) ?_
      refine lv_iload_n E.1 E.2.1 dX11_weight_25 rfl (lv_at hl 2 rfl) ?_
      obtain ⟨r26, σ26, hcl, hf⟩ := bd_some hf
      refine cl_V (rest := []) (st1 := [.int r26]) (As := [.int x1, .int x2]) E hG (c_c_X9_replace hcl) Wd_456 mi_X9_replace ⟨Nat.le_of_ble_eq_true rfl, Nat.le_of_ble_eq_true rfl, Nat.zero_le _, Nat.zero_le _⟩ 10 4 rfl rfl rfl hl.1 rfl (Nat.le_of_ble_eq_true rfl) dX11_weight_26 rfl (fun H locs hG => ?_)
      exact r_i E hr hlk hG hf dX11_weight_29
    · replace hf := (if_pos hc).symm.trans hf
      refine lv_iconst (v := (-1 : Int32)) E.1 E.2.1 dX11_weight_18 (by decide) ?_
      exact r_i E hr hlk hG hf dX11_weight_19

set_option maxHeartbeats 4000000 in
set_option maxRecDepth 100000 in
theorem c_c_X11_share {l : Launch} {D : va_G} {ad : Nat → Nat} {cy : ClassId} {σ : SS} {x1 : Int32} {r : Int64} {σ' : SS} (hf : f_c_X11_share σ x1 = some (r, σ')) : Ctr l D (cw ad cy) (cas ad) cy yX11_share cX11_share 2 (some FieldType.long) 2 42 [.ref (ad 0), .int x1] σ (some (.long r)) σ' := by
  refine Ctr.of (cw_as ad cy) rfl (Nat.le_of_ble_eq_true rfl) (fun p e s m args below meth c ls E hr hlk hl hG => ?_)
  have hl : lv_has ls 2 [(0, .ref (ad 0)), (1, .int x1)] := hl
  unfold f_c_X11_share at hf
  refine lv_iload_n E.1 E.2.1 dX11_share_0 rfl (lv_at hl 1 rfl) ?_
  obtain ⟨r1, σ1, hcl, hf⟩ := bd_some hf
  refine cl_S (rest := []) (st1 := [.int r1]) (As := [.int x1]) E hG (c_c_X11_isSign hcl) Wd_362 mi_X11_isSign ⟨Nat.le_of_ble_eq_true rfl, Nat.le_of_ble_eq_true rfl, Nat.zero_le _, Nat.zero_le _⟩ rfl hl.1 rfl (Nat.le_of_ble_eq_true rfl) dX11_share_1 rfl (fun H locs hG => ?_)
  refine lv_if_ne (tgt := 17) E.1 E.2.1 dX11_share_4 (by decide) (fun hc => ?_) (fun hc => ?_)
  · replace hf := (if_neg hc).symm.trans hf
    refine lv_aload_n E.1 E.2.1 dX11_share_17 rfl (lv_at hl 0 rfl) ?_
    refine fg_c_X11_19_0 E hG dX11_share_18 ?_
    refine fg_c_X11_134_4 E hG dX11_share_21 ?_
    refine lv_if_ne (tgt := 37) E.1 E.2.1 dX11_share_24 (by decide) (fun hc => ?_) (fun hc => ?_)
    · replace hf := (if_neg hc).symm.trans hf
      refine lv_aload_n E.1 E.2.1 dX11_share_37 rfl (lv_at hl 0 rfl) ?_
      refine fg_c_X11_19_0 E hG dX11_share_38 ?_
      refine fg_c_X11_142_4 E hG dX11_share_41 ?_
      refine lv_iload_n E.1 E.2.1 dX11_share_44 rfl (lv_at hl 1 rfl) ?_
      obtain ⟨hin, hf⟩ := gd_some hf
      refine al_c_5 E hG hin dX11_share_45 ?_
      refine lv_i2l E.1 E.2.1 dX11_share_46 rfl ?_
      refine lv_ldc2 E.1 E.2.1 E.2.2.2.1 (E.2.2.2.2 _ Wd_734) dX11_share_47 ?_
      refine lv_lmul E.1 E.2.1 dX11_share_50 ?_
      refine lv_aload_n E.1 E.2.1 dX11_share_51 rfl (lv_at hl 0 rfl) ?_
      refine fg_c_X11_19_0 E hG dX11_share_52 ?_
      refine fg_c_X11_134_4 E hG dX11_share_55 ?_
      refine lv_i2l E.1 E.2.1 dX11_share_58 rfl ?_
      obtain ⟨hz, hf⟩ := gZ_some hf
      refine lv_ldiv E.1 E.2.1 dX11_share_59 hz ?_
      exact r_l E hr hlk hG hf dX11_share_60
    · replace hf := (if_pos hc).symm.trans hf
      cases hf
  · replace hf := (if_pos hc).symm.trans hf
    cases hf

set_option maxHeartbeats 4000000 in
set_option maxRecDepth 100000 in
theorem k_c_X1_partInWhole_17 {p : Program} {l : Launch} {e : Env} {s : State} {m : MethodId} {args : Array Value} {below : List Frame} {meth : Method} {c : Code} {D : va_G} {ad : Nat → Nat} {cy : ClassId} {r : Int64} {σ' : SS} (E : CallFix p m c cX1_partInWhole 8 s args TT yX1_partInWhole.cls) (hr : meth.sig.returnType = (some FieldType.long)) (hlk : meth.locks = false) : ∀ (σ : SS) (x1 : Int32) (x2 : Int32) (x3 : Int32) (x4 : Int32) (y0 : Int32), f_c_X1_partInWhole_17 σ x1 x2 x3 x4 y0 = some (r, σ') → At p l e 3 82 s m args below meth c D (cw ad cy) (cas ad) cy (some (.long r)) σ' 8 17 [(0, .ref (ad 12)), (1, .int x1), (2, .int x2), (3, .int x3), (4, .int x4)] [.int y0] σ := by
  intro σ x1 x2 x3 x4 y0 hf H locs ls hG hl
  unfold f_c_X1_partInWhole_17 at hf
  refine lv_istore (lv' := [(5, .int y0), (0, .ref (ad 12)), (1, .int x1), (2, .int x2), (3, .int x3), (4, .int x4)]) E.1 E.2.1 dX1_partInWhole_17 hl (by decide) rfl (fun ls hl => ?_)
  refine lv_aload_n E.1 E.2.1 dX1_partInWhole_19 rfl (lv_at hl 1 rfl) ?_
  refine fg_c_X1_12_12 E hG dX1_partInWhole_20 ?_
  refine lv_iload_n E.1 E.2.1 dX1_partInWhole_23 rfl (lv_at hl 3 rfl) ?_
  refine lv_iload_n E.1 E.2.1 dX1_partInWhole_24 rfl (lv_at hl 4 rfl) ?_
  refine lv_iload E.1 E.2.1 dX1_partInWhole_25 (lv_at hl 5 rfl) ?_
  obtain ⟨r27, σ27, hcl, hf⟩ := bd_some hf
  refine cl_V (rest := []) (st1 := [.long r27]) (As := [.int x2, .int x3, .int x4]) E hG (c_c_X4_end hcl) Wd_484 mi_X4_end ⟨Nat.le_of_ble_eq_true rfl, Nat.le_of_ble_eq_true rfl, Nat.zero_le _, Nat.zero_le _⟩ 6 13 rfl rfl rfl hl.1 rfl (Nat.le_of_ble_eq_true rfl) dX1_partInWhole_27 rfl (fun H locs hG => ?_)
  refine lv_aload_n E.1 E.2.1 dX1_partInWhole_30 rfl (lv_at hl 1 rfl) ?_
  refine fg_c_X1_12_12 E hG dX1_partInWhole_31 ?_
  refine lv_iload_n E.1 E.2.1 dX1_partInWhole_34 rfl (lv_at hl 2 rfl) ?_
  refine lv_iload_n E.1 E.2.1 dX1_partInWhole_35 rfl (lv_at hl 4 rfl) ?_
  refine lv_iload E.1 E.2.1 dX1_partInWhole_36 (lv_at hl 0 rfl) ?_
  obtain ⟨r38, σ38, hcl, hf⟩ := bd_some hf
  refine cl_V (rest := [.long r27]) (st1 := [.long r38, .long r27]) (As := [.int x1, .int x3, .int y0]) E hG (c_c_X4_end hcl) Wd_484 mi_X4_end ⟨Nat.le_of_ble_eq_true rfl, Nat.le_of_ble_eq_true rfl, Nat.zero_le _, Nat.zero_le _⟩ 6 13 rfl rfl rfl hl.1 rfl (Nat.le_of_ble_eq_true rfl) dX1_partInWhole_38 rfl (fun H locs hG => ?_)
  refine lv_lsub E.1 E.2.1 dX1_partInWhole_41 ?_
  refine lv_lstore (lv' := [(6, .long (r27 - r38)), (5, .int y0), (0, .ref (ad 12)), (1, .int x1), (2, .int x2), (3, .int x3), (4, .int x4)]) E.1 E.2.1 dX1_partInWhole_42 hl (by decide) rfl (fun ls hl => ?_)
  refine lv_lload E.1 E.2.1 dX1_partInWhole_44 (lv_at hl 0 rfl) ?_
  refine lv_lconst (v := (0 : Int64)) E.1 E.2.1 dX1_partInWhole_46 (by decide) ?_
  refine va_mmax_long E.1 E.2.1 (E.2.2.1.trans hl.1.symm) E.2.2.2.1 (E.2.2.2.2 _ Wd_485) (E.2.2.2.2 _ Wd_486) (E.2.2.2.2 _ Wd_63) (E.2.2.2.2 _ Wd_487) (Nat.le_of_ble_eq_true rfl) (Nat.le_of_ble_eq_true rfl) (Nat.zero_le _) (Nat.zero_le _) dX1_partInWhole_47 ?_
  exact r_l E hr hlk hG hf dX1_partInWhole_50

set_option maxHeartbeats 4000000 in
set_option maxRecDepth 100000 in
theorem c_c_X1_partInWhole {l : Launch} {D : va_G} {ad : Nat → Nat} {cy : ClassId} {σ : SS} {x1 : Int32} {x2 : Int32} {x3 : Int32} {x4 : Int32} {r : Int64} {σ' : SS} (hf : f_c_X1_partInWhole σ x1 x2 x3 x4 = some (r, σ')) : Ctr l D (cw ad cy) (cas ad) cy yX1_partInWhole cX1_partInWhole 8 (some FieldType.long) 3 82 [.ref (ad 12), .int x1, .int x2, .int x3, .int x4] σ (some (.long r)) σ' := by
  refine Ctr.of (cw_as ad cy) rfl (Nat.le_of_ble_eq_true rfl) (fun p e s m args below meth c ls E hr hlk hl hG => ?_)
  have hl : lv_has ls 8 [(0, .ref (ad 12)), (1, .int x1), (2, .int x2), (3, .int x3), (4, .int x4)] := hl
  unfold f_c_X1_partInWhole at hf
  refine lv_iload_n E.1 E.2.1 dX1_partInWhole_0 rfl (lv_at hl 1 rfl) ?_
  refine lv_iload_n E.1 E.2.1 dX1_partInWhole_1 rfl (lv_at hl 2 rfl) ?_
  refine lv_icmp_ne (tgt := 7) E.1 E.2.1 dX1_partInWhole_2 (by decide) (fun hc => ?_) (fun hc => ?_)
  · replace hf := (if_neg hc).symm.trans hf
    refine lv_iload E.1 E.2.1 dX1_partInWhole_7 (lv_at hl 4 rfl) ?_
    refine lv_if_ne (tgt := 16) E.1 E.2.1 dX1_partInWhole_9 (by decide) (fun hc => ?_) (fun hc => ?_)
    · replace hf := (if_neg hc).symm.trans hf
      refine lv_iconst (v := (0 : Int32)) E.1 E.2.1 dX1_partInWhole_16 (by decide) ?_
      exact k_c_X1_partInWhole_17 E hr hlk _ _ _ _ _ _ hf _ _ _ hG (lv_sub hl [0, 1, 2, 3, 4] rfl)
    · replace hf := (if_pos hc).symm.trans hf
      refine lv_iconst (v := (1 : Int32)) E.1 E.2.1 dX1_partInWhole_12 (by decide) ?_
      refine lv_goto (tgt := 17) E.1 E.2.1 dX1_partInWhole_13 (by decide) ?_
      exact k_c_X1_partInWhole_17 E hr hlk _ _ _ _ _ _ hf _ _ _ hG (lv_sub hl [0, 1, 2, 3, 4] rfl)
  · replace hf := (if_pos hc).symm.trans hf
    refine lv_lconst (v := (0 : Int64)) E.1 E.2.1 dX1_partInWhole_5 (by decide) ?_
    exact r_l E hr hlk hG hf dX1_partInWhole_6

set_option maxHeartbeats 4000000 in
set_option maxRecDepth 100000 in
theorem k_c_J7_fill_53178_15_5 {p : Program} {l : Launch} {e : Env} {s : State} {m : MethodId} {args : Array Value} {below : List Frame} {meth : Method} {c : Code} {D : va_G} {ad : Nat → Nat} {cy : ClassId} {r : Unit} {σ' : SS} (E : CallFix p m c cJ7_fill_53178 4 s args TT yJ7_fill_53178.cls) (hr : meth.sig.returnType = none) (hlk : meth.locks = false) (g5 : SS → Int32 → Int32 → Int32 → Option (Unit × SS)) (hg5 : ∀ (σ : SS) (x1 : Int32) (x2 : Int32) (x3 : Int32), g5 σ x1 x2 x3 = some (r, σ') → At p l e 0 0 s m args below meth c D (cw ad cy) (cas ad) cy (none) σ' 4 5 [(0, .ref (ad 15)), (1, .int x1), (2, .int x2), (3, .int x3)] [] σ) : ∀ (σ : SS) (x1 : Int32) (x2 : Int32) (x3 : Int32), f_c_J7_fill_53178_15_5 g5 σ x1 x2 x3 = some (r, σ') → At p l e 0 0 s m args below meth c D (cw ad cy) (cas ad) cy (none) σ' 4 5 [(0, .ref (ad 15)), (1, .int x1), (2, .int x2), (3, .int x3)] [] σ := by
  intro σ x1 x2 x3 hf H locs ls hG hl
  unfold f_c_J7_fill_53178_15_5 at hf
  refine lv_iload_n E.1 E.2.1 dJ7_fill_53178_5 rfl (lv_at hl 2 rfl) ?_
  refine lv_iload_n E.1 E.2.1 dJ7_fill_53178_6 rfl (lv_at hl 3 rfl) ?_
  refine lv_icmp_ge (tgt := 20) E.1 E.2.1 dJ7_fill_53178_7 (by decide) (fun hc => ?_) (fun hc => ?_)
  · replace hf := (if_pos hc).symm.trans hf
    exact r_v E hr hlk hG hf dJ7_fill_53178_20
  · replace hf := (if_neg hc).symm.trans hf
    refine lv_aload_n E.1 E.2.1 dJ7_fill_53178_10 rfl (lv_at hl 0 rfl) ?_
    refine lv_iload_n E.1 E.2.1 dJ7_fill_53178_11 rfl (lv_at hl 2 rfl) ?_
    refine lv_iload_n E.1 E.2.1 dJ7_fill_53178_12 rfl (lv_at hl 1 rfl) ?_
    obtain ⟨hin, hf⟩ := gd_some hf
    refine as_c_15 E hG hin dJ7_fill_53178_13 (fun H locs hG => ?_)
    refine lv_iinc (v := (x2 + (1 : Int32))) (lv' := [(2, .int (x2 + (1 : Int32))), (0, .ref (ad 15)), (1, .int x1), (3, .int x3)]) E.1 E.2.1 dJ7_fill_53178_14 hl (k := 2) rfl rfl (by decide) rfl (fun ls hl => ?_)
    refine lv_goto (tgt := 5) E.1 E.2.1 dJ7_fill_53178_17 (by decide) ?_
    exact hg5 _ _ _ _ hf _ _ _ hG (lv_sub hl [1, 2, 0, 3] rfl)

set_option maxHeartbeats 4000000 in
set_option maxRecDepth 100000 in
theorem c_c_J7_fill_53178_15 {l : Launch} {D : va_G} {ad : Nat → Nat} {cy : ClassId} {σ : SS} {x1 : Int32} {r : Unit} {σ' : SS} (hf : f_c_J7_fill_53178_15 σ x1 = some (r, σ')) : Ctr l D (cw ad cy) (cas ad) cy yJ7_fill_53178 cJ7_fill_53178 4 none 0 0 [.ref (ad 15), .int x1] σ (none) σ' := by
  refine Ctr.of (cw_as ad cy) rfl (Nat.le_of_ble_eq_true rfl) (fun p e s m args below meth c ls E hr hlk hl hG => ?_)
  have hl : lv_has ls 4 [(0, .ref (ad 15)), (1, .int x1)] := hl
  unfold f_c_J7_fill_53178_15 at hf
  refine lv_iconst (v := (0 : Int32)) E.1 E.2.1 dJ7_fill_53178_0 (by decide) ?_
  refine lv_istore_n (lv' := [(2, .int (0 : Int32)), (0, .ref (ad 15)), (1, .int x1)]) E.1 E.2.1 dJ7_fill_53178_1 rfl hl (by decide) rfl (fun ls hl => ?_)
  refine lv_aload_n E.1 E.2.1 dJ7_fill_53178_2 rfl (lv_at hl 1 rfl) ?_
  refine an_c_15 E hG dJ7_fill_53178_3 ?_
  refine lv_istore_n (lv' := [(3, .int (16 : Int32)), (2, .int (0 : Int32)), (0, .ref (ad 15)), (1, .int x1)]) E.1 E.2.1 dJ7_fill_53178_4 rfl hl (by decide) rfl (fun ls hl => ?_)
  exact L3_at (P := fun σ x1 x2 x3 => At p l e 0 0 s m args below meth c D (cw ad cy) (cas ad) cy (none) σ' 4 5 [(0, .ref (ad 15)), (1, .int x1), (2, .int x2), (3, .int x3)] [] σ) (fun g hg => k_c_J7_fill_53178_15_5 E hr hlk g hg) FUEL _ _ _ _ hf _ _ _ hG (lv_sub hl [2, 3, 1, 0] rfl)

set_option maxHeartbeats 4000000 in
set_option maxRecDepth 100000 in
theorem k_c_X1_growing_14 {p : Program} {l : Launch} {e : Env} {s : State} {m : MethodId} {args : Array Value} {below : List Frame} {meth : Method} {c : Code} {D : va_G} {ad : Nat → Nat} {cy : ClassId} {r : Int64} {σ' : SS} (E : CallFix p m c cX1_growing 8 s args TT yX1_growing.cls) (hr : meth.sig.returnType = (some FieldType.long)) (hlk : meth.locks = false) (g14 : SS → Int32 → Int32 → Int64 → Int32 → Option (Int64 × SS)) (hg14 : ∀ (σ : SS) (x2 : Int32) (x3 : Int32) (x4 : Int64) (x6 : Int32), g14 σ x2 x3 x4 x6 = some (r, σ') → At p l e 4 109 s m args below meth c D (cw ad cy) (cas ad) cy (some (.long r)) σ' 8 14 [(0, .ref (ad 12)), (1, .ref (ad 1)), (2, .int x2), (3, .int x3), (4, .long x4), (6, .int x6)] [] σ) : ∀ (σ : SS) (x2 : Int32) (x3 : Int32) (x4 : Int64) (x6 : Int32), f_c_X1_growing_14 g14 σ x2 x3 x4 x6 = some (r, σ') → At p l e 4 109 s m args below meth c D (cw ad cy) (cas ad) cy (some (.long r)) σ' 8 14 [(0, .ref (ad 12)), (1, .ref (ad 1)), (2, .int x2), (3, .int x3), (4, .long x4), (6, .int x6)] [] σ := by
  intro σ x2 x3 x4 x6 hf H locs ls hG hl
  unfold f_c_X1_growing_14 at hf
  refine lv_iload E.1 E.2.1 dX1_growing_14 (lv_at hl 5 rfl) ?_
  refine lv_aload_n E.1 E.2.1 dX1_growing_16 rfl (lv_at hl 1 rfl) ?_
  refine fg_c_X1_60_1 E hG dX1_growing_17 ?_
  refine lv_icmp_ge (tgt := 72) E.1 E.2.1 dX1_growing_20 (by decide) (fun hc => ?_) (fun hc => ?_)
  · replace hf := (if_pos hc).symm.trans hf
    refine lv_lload E.1 E.2.1 dX1_growing_72 (lv_at hl 4 rfl) ?_
    exact r_l E hr hlk hG hf dX1_growing_74
  · replace hf := (if_neg hc).symm.trans hf
    refine lv_aload_n E.1 E.2.1 dX1_growing_23 rfl (lv_at hl 1 rfl) ?_
    refine fg_c_X1_63_1 E hG dX1_growing_24 ?_
    refine lv_iload E.1 E.2.1 dX1_growing_27 (lv_at hl 5 rfl) ?_
    obtain ⟨hin, hf⟩ := gd_some hf
    refine al_c_2 E hG hin dX1_growing_29 ?_
    refine lv_istore (lv' := [(7, .int (σ.2 0 (Int32.toNatClampNeg x6))), (0, .ref (ad 12)), (1, .ref (ad 1)), (2, .int x2), (3, .int x3), (4, .long x4), (6, .int x6)]) E.1 E.2.1 dX1_growing_30 hl (by decide) rfl (fun ls hl => ?_)
    refine lv_aload_n E.1 E.2.1 dX1_growing_32 rfl (lv_at hl 1 rfl) ?_
    refine fg_c_X1_18_12 E hG dX1_growing_33 ?_
    refine lv_iload E.1 E.2.1 dX1_growing_36 (lv_at hl 0 rfl) ?_
    refine lv_dup2_11 E.1 E.2.1 dX1_growing_38 rfl rfl ?_
    obtain ⟨hin, hf⟩ := gd_some hf
    refine al_c_15 E hG hin dX1_growing_39 ?_
    refine lv_iconst (v := (1 : Int32)) E.1 E.2.1 dX1_growing_40 (by decide) ?_
    refine lv_iadd E.1 E.2.1 dX1_growing_41 ?_
    obtain ⟨hin, hf⟩ := gd_some hf
    refine as_c_15 E hG hin dX1_growing_42 (fun H locs hG => ?_)
    refine lv_lload E.1 E.2.1 dX1_growing_43 (lv_at hl 5 rfl) ?_
    refine lv_aload_n E.1 E.2.1 dX1_growing_45 rfl (lv_at hl 1 rfl) ?_
    refine lv_aload_n E.1 E.2.1 dX1_growing_46 rfl (lv_at hl 1 rfl) ?_
    refine fg_c_X1_18_12 E hG dX1_growing_47 ?_
    refine lv_iload E.1 E.2.1 dX1_growing_50 (lv_at hl 0 rfl) ?_
    obtain ⟨hin, hf⟩ := gd_some hf
    refine al_c_15 E hG hin dX1_growing_52 ?_
    refine lv_iload E.1 E.2.1 dX1_growing_53 (lv_at hl 6 rfl) ?_
    refine lv_bipush (v := (16 : Int32)) E.1 E.2.1 dX1_growing_55 (by decide) ?_
    refine lv_iadd E.1 E.2.1 dX1_growing_57 ?_
    refine lv_iload_n E.1 E.2.1 dX1_growing_58 rfl (lv_at hl 3 rfl) ?_
    refine lv_iload_n E.1 E.2.1 dX1_growing_59 rfl (lv_at hl 4 rfl) ?_
    obtain ⟨r60, σ60, hcl, hf⟩ := bd_some hf
    refine cl_V (rest := [.long x4]) (st1 := [.long r60, .long x4]) (As := [.int ((putA σ 9 (Int32.toNatClampNeg (σ.2 0 (Int32.toNatClampNeg x6))) ((σ.2 9 (Int32.toNatClampNeg (σ.2 0 (Int32.toNatClampNeg x6)))) + (1 : Int32))).2 9 (Int32.toNatClampNeg (σ.2 0 (Int32.toNatClampNeg x6)))), .int (x6 + (16 : Int32)), .int x2, .int x3]) E hG (c_c_X1_partInWhole hcl) Wd_480 mi_X1_partInWhole ⟨Nat.le_of_ble_eq_true rfl, Nat.le_of_ble_eq_true rfl, Nat.zero_le _, Nat.zero_le _⟩ 3 12 rfl rfl rfl hl.1 rfl (Nat.le_of_ble_eq_true rfl) dX1_growing_60 rfl (fun H locs hG => ?_)
    refine lv_ladd E.1 E.2.1 dX1_growing_63 ?_
    refine lv_lstore (lv' := [(4, .long (x4 + r60)), (7, .int (σ.2 0 (Int32.toNatClampNeg x6))), (0, .ref (ad 12)), (1, .ref (ad 1)), (2, .int x2), (3, .int x3), (6, .int x6)]) E.1 E.2.1 dX1_growing_64 hl (by decide) rfl (fun ls hl => ?_)
    refine lv_iinc (v := (x6 + (1 : Int32))) (lv' := [(6, .int (x6 + (1 : Int32))), (4, .long (x4 + r60)), (7, .int (σ.2 0 (Int32.toNatClampNeg x6))), (0, .ref (ad 12)), (1, .ref (ad 1)), (2, .int x2), (3, .int x3)]) E.1 E.2.1 dX1_growing_66 hl (k := 6) rfl rfl (by decide) rfl (fun ls hl => ?_)
    refine lv_goto (tgt := 14) E.1 E.2.1 dX1_growing_69 (by decide) ?_
    exact hg14 _ _ _ _ _ hf _ _ _ hG (lv_sub hl [3, 4, 5, 6, 1, 0] rfl)

set_option maxHeartbeats 4000000 in
set_option maxRecDepth 100000 in
theorem c_c_X1_growing {l : Launch} {D : va_G} {ad : Nat → Nat} {cy : ClassId} {σ : SS} {x2 : Int32} {x3 : Int32} {r : Int64} {σ' : SS} (hf : f_c_X1_growing σ x2 x3 = some (r, σ')) : Ctr l D (cw ad cy) (cas ad) cy yX1_growing cX1_growing 8 (some FieldType.long) 4 109 [.ref (ad 12), .ref (ad 1), .int x2, .int x3] σ (some (.long r)) σ' := by
  refine Ctr.of (cw_as ad cy) rfl (Nat.le_of_ble_eq_true rfl) (fun p e s m args below meth c ls E hr hlk hl hG => ?_)
  have hl : lv_has ls 8 [(0, .ref (ad 12)), (1, .ref (ad 1)), (2, .int x2), (3, .int x3)] := hl
  unfold f_c_X1_growing at hf
  refine lv_aload_n E.1 E.2.1 dX1_growing_0 rfl (lv_at hl 0 rfl) ?_
  refine fg_c_X1_18_12 E hG dX1_growing_1 ?_
  refine lv_iconst (v := (0 : Int32)) E.1 E.2.1 dX1_growing_4 (by decide) ?_
  obtain ⟨r5, σ5, hcl, hf⟩ := bd_some hf
  refine cl_S (rest := []) (st1 := []) (As := [.ref (ad 15), .int (0 : Int32)]) E hG (c_c_J7_fill_53178_15 hcl) Wd_496 mi_J7_fill_53178 ⟨Nat.le_of_ble_eq_true rfl, Nat.le_of_ble_eq_true rfl, Nat.zero_le _, Nat.zero_le _⟩ rfl hl.1 rfl (Nat.le_of_ble_eq_true rfl) dX1_growing_5 rfl (fun H locs hG => ?_)
  refine lv_lconst (v := (0 : Int64)) E.1 E.2.1 dX1_growing_8 (by decide) ?_
  refine lv_lstore (lv' := [(4, .long (0 : Int64)), (0, .ref (ad 12)), (1, .ref (ad 1)), (2, .int x2), (3, .int x3)]) E.1 E.2.1 dX1_growing_9 hl (by decide) rfl (fun ls hl => ?_)
  refine lv_iconst (v := (0 : Int32)) E.1 E.2.1 dX1_growing_11 (by decide) ?_
  refine lv_istore (lv' := [(6, .int (0 : Int32)), (4, .long (0 : Int64)), (0, .ref (ad 12)), (1, .ref (ad 1)), (2, .int x2), (3, .int x3)]) E.1 E.2.1 dX1_growing_12 hl (by decide) rfl (fun ls hl => ?_)
  exact L4_at (P := fun σ x2 x3 x4 x6 => At p l e 4 109 s m args below meth c D (cw ad cy) (cas ad) cy (some (.long r)) σ' 8 14 [(0, .ref (ad 12)), (1, .ref (ad 1)), (2, .int x2), (3, .int x3), (4, .long x4), (6, .int x6)] [] σ) (fun g hg => k_c_X1_growing_14 E hr hlk g hg) FUEL _ _ _ _ _ hf _ _ _ hG (lv_sub hl [2, 3, 4, 5, 1, 0] rfl)

set_option maxHeartbeats 4000000 in
set_option maxRecDepth 100000 in
theorem k_c_X1_cross_6 {p : Program} {l : Launch} {e : Env} {s : State} {m : MethodId} {args : Array Value} {below : List Frame} {meth : Method} {c : Code} {D : va_G} {ad : Nat → Nat} {cy : ClassId} {r : Int64} {σ' : SS} (E : CallFix p m c cX1_cross 8 s args TT yX1_cross.cls) (hr : meth.sig.returnType = (some FieldType.long)) (hlk : meth.locks = false) (g6 : SS → Int32 → Int32 → Int64 → Int32 → Option (Int64 × SS)) (hg6 : ∀ (σ : SS) (x3 : Int32) (x4 : Int32) (x5 : Int64) (x7 : Int32), g6 σ x3 x4 x5 x7 = some (r, σ') → At p l e 4 109 s m args below meth c D (cw ad cy) (cas ad) cy (some (.long r)) σ' 8 6 [(0, .ref (ad 12)), (1, .ref (ad 1)), (2, .ref (ad 4)), (3, .int x3), (4, .int x4), (5, .long x5), (7, .int x7)] [] σ) : ∀ (σ : SS) (x3 : Int32) (x4 : Int32) (x5 : Int64) (x7 : Int32), f_c_X1_cross_6 g6 σ x3 x4 x5 x7 = some (r, σ') → At p l e 4 109 s m args below meth c D (cw ad cy) (cas ad) cy (some (.long r)) σ' 8 6 [(0, .ref (ad 12)), (1, .ref (ad 1)), (2, .ref (ad 4)), (3, .int x3), (4, .int x4), (5, .long x5), (7, .int x7)] [] σ := by
  intro σ x3 x4 x5 x7 hf H locs ls hG hl
  unfold f_c_X1_cross_6 at hf
  refine lv_iload E.1 E.2.1 dX1_cross_6 (lv_at hl 6 rfl) ?_
  refine lv_bipush (v := (16 : Int32)) E.1 E.2.1 dX1_cross_8 (by decide) ?_
  refine lv_icmp_ge (tgt := 61) E.1 E.2.1 dX1_cross_10 (by decide) (fun hc => ?_) (fun hc => ?_)
  · replace hf := (if_pos hc).symm.trans hf
    refine lv_lload E.1 E.2.1 dX1_cross_61 (lv_at hl 5 rfl) ?_
    exact r_l E hr hlk hG hf dX1_cross_63
  · replace hf := (if_neg hc).symm.trans hf
    refine lv_aload_n E.1 E.2.1 dX1_cross_13 rfl (lv_at hl 1 rfl) ?_
    refine fg_c_X1_41_1 E hG dX1_cross_14 ?_
    refine lv_iload E.1 E.2.1 dX1_cross_17 (lv_at hl 6 rfl) ?_
    obtain ⟨hin, hf⟩ := gd_some hf
    refine al_c_3 E hG hin dX1_cross_19 ?_
    refine lv_if_le (tgt := 55) E.1 E.2.1 dX1_cross_20 (by decide) (fun hc => ?_) (fun hc => ?_)
    · replace hf := (if_pos hc).symm.trans hf
      refine lv_iinc (v := (x7 + (1 : Int32))) (lv' := [(7, .int (x7 + (1 : Int32))), (0, .ref (ad 12)), (1, .ref (ad 1)), (2, .ref (ad 4)), (3, .int x3), (4, .int x4), (5, .long x5)]) E.1 E.2.1 dX1_cross_55 hl (k := 6) rfl rfl (by decide) rfl (fun ls hl => ?_)
      refine lv_goto (tgt := 6) E.1 E.2.1 dX1_cross_58 (by decide) ?_
      exact hg6 _ _ _ _ _ hf _ _ _ hG (lv_sub hl [1, 2, 3, 4, 5, 6, 0] rfl)
    · replace hf := (if_neg hc).symm.trans hf
      refine lv_lload E.1 E.2.1 dX1_cross_23 (lv_at hl 5 rfl) ?_
      refine lv_aload_n E.1 E.2.1 dX1_cross_25 rfl (lv_at hl 1 rfl) ?_
      refine fg_c_X1_41_1 E hG dX1_cross_26 ?_
      refine lv_iload E.1 E.2.1 dX1_cross_29 (lv_at hl 6 rfl) ?_
      obtain ⟨hin, hf⟩ := gd_some hf
      refine al_c_3 E hG hin dX1_cross_31 ?_
      refine lv_i2l E.1 E.2.1 dX1_cross_32 rfl ?_
      refine lv_aload_n E.1 E.2.1 dX1_cross_33 rfl (lv_at hl 0 rfl) ?_
      refine lv_aload_n E.1 E.2.1 dX1_cross_34 rfl (lv_at hl 2 rfl) ?_
      refine fg_c_X1_46_4 E hG dX1_cross_35 ?_
      refine lv_iload E.1 E.2.1 dX1_cross_38 (lv_at hl 6 rfl) ?_
      obtain ⟨hin, hf⟩ := gd_some hf
      refine al_c_5 E hG hin dX1_cross_40 ?_
      refine lv_aload_n E.1 E.2.1 dX1_cross_41 rfl (lv_at hl 2 rfl) ?_
      refine fg_c_X1_51_4 E hG dX1_cross_42 ?_
      refine lv_iload_n E.1 E.2.1 dX1_cross_45 rfl (lv_at hl 3 rfl) ?_
      refine lv_iload E.1 E.2.1 dX1_cross_46 (lv_at hl 4 rfl) ?_
      obtain ⟨r48, σ48, hcl, hf⟩ := bd_some hf
      refine cl_V (rest := [.long (Int32.toInt64 (σ.2 1 (Int32.toNatClampNeg x7))), .long x5]) (st1 := [.long r48, .long (Int32.toInt64 (σ.2 1 (Int32.toNatClampNeg x7))), .long x5]) (As := [.int (σ.2 2 (Int32.toNatClampNeg x7)), .int (σ.1 2), .int x3, .int x4]) E hG (c_c_X1_partInWhole hcl) Wd_480 mi_X1_partInWhole ⟨Nat.le_of_ble_eq_true rfl, Nat.le_of_ble_eq_true rfl, Nat.zero_le _, Nat.zero_le _⟩ 3 12 rfl rfl rfl hl.1 rfl (Nat.le_of_ble_eq_true rfl) dX1_cross_48 rfl (fun H locs hG => ?_)
      refine lv_lmul E.1 E.2.1 dX1_cross_51 ?_
      refine lv_ladd E.1 E.2.1 dX1_cross_52 ?_
      refine lv_lstore (lv' := [(5, .long (x5 + ((Int32.toInt64 (σ.2 1 (Int32.toNatClampNeg x7))) * r48))), (0, .ref (ad 12)), (1, .ref (ad 1)), (2, .ref (ad 4)), (3, .int x3), (4, .int x4), (7, .int x7)]) E.1 E.2.1 dX1_cross_53 hl (by decide) rfl (fun ls hl => ?_)
      refine lv_iinc (v := (x7 + (1 : Int32))) (lv' := [(7, .int (x7 + (1 : Int32))), (5, .long (x5 + ((Int32.toInt64 (σ.2 1 (Int32.toNatClampNeg x7))) * r48))), (0, .ref (ad 12)), (1, .ref (ad 1)), (2, .ref (ad 4)), (3, .int x3), (4, .int x4)]) E.1 E.2.1 dX1_cross_55 hl (k := 6) rfl rfl (by decide) rfl (fun ls hl => ?_)
      refine lv_goto (tgt := 6) E.1 E.2.1 dX1_cross_58 (by decide) ?_
      exact hg6 _ _ _ _ _ hf _ _ _ hG (lv_sub hl [2, 3, 4, 5, 6, 1, 0] rfl)

set_option maxHeartbeats 4000000 in
set_option maxRecDepth 100000 in
theorem c_c_X1_cross {l : Launch} {D : va_G} {ad : Nat → Nat} {cy : ClassId} {σ : SS} {x3 : Int32} {x4 : Int32} {r : Int64} {σ' : SS} (hf : f_c_X1_cross σ x3 x4 = some (r, σ')) : Ctr l D (cw ad cy) (cas ad) cy yX1_cross cX1_cross 8 (some FieldType.long) 4 109 [.ref (ad 12), .ref (ad 1), .ref (ad 4), .int x3, .int x4] σ (some (.long r)) σ' := by
  refine Ctr.of (cw_as ad cy) rfl (Nat.le_of_ble_eq_true rfl) (fun p e s m args below meth c ls E hr hlk hl hG => ?_)
  have hl : lv_has ls 8 [(0, .ref (ad 12)), (1, .ref (ad 1)), (2, .ref (ad 4)), (3, .int x3), (4, .int x4)] := hl
  unfold f_c_X1_cross at hf
  refine lv_lconst (v := (0 : Int64)) E.1 E.2.1 dX1_cross_0 (by decide) ?_
  refine lv_lstore (lv' := [(5, .long (0 : Int64)), (0, .ref (ad 12)), (1, .ref (ad 1)), (2, .ref (ad 4)), (3, .int x3), (4, .int x4)]) E.1 E.2.1 dX1_cross_1 hl (by decide) rfl (fun ls hl => ?_)
  refine lv_iconst (v := (0 : Int32)) E.1 E.2.1 dX1_cross_3 (by decide) ?_
  refine lv_istore (lv' := [(7, .int (0 : Int32)), (5, .long (0 : Int64)), (0, .ref (ad 12)), (1, .ref (ad 1)), (2, .ref (ad 4)), (3, .int x3), (4, .int x4)]) E.1 E.2.1 dX1_cross_4 hl (by decide) rfl (fun ls hl => ?_)
  exact L4_at (P := fun σ x3 x4 x5 x7 => At p l e 4 109 s m args below meth c D (cw ad cy) (cas ad) cy (some (.long r)) σ' 8 6 [(0, .ref (ad 12)), (1, .ref (ad 1)), (2, .ref (ad 4)), (3, .int x3), (4, .int x4), (5, .long x5), (7, .int x7)] [] σ) (fun g hg => k_c_X1_cross_6 E hr hlk g hg) FUEL _ _ _ _ _ hf _ _ _ hG (lv_sub hl [2, 3, 4, 5, 6, 1, 0] rfl)
