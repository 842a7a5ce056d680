set_option maxHeartbeats 4000000 in
set_option maxRecDepth 100000 in
theorem k_c_X1_content_6 {p : Program} {l : Launch} {e : Env} {s : State} {m : MethodId} {args : Array Value} {below : List Frame} {meth : Method} {c : Code} {D : va_G} {ad : Nat → Nat} {cy : ClassId} {r : Int64} {σ' : SS} (E : CallFix p m c cX1_content 9 s args TT yX1_content.cls) (hr : meth.sig.returnType = (some FieldType.long)) (hlk : meth.locks = false) (g6 : SS → Int32 → Int32 → Int64 → Int32 → Option (Int64 × SS)) (hg6 : ∀ (σ : SS) (x2 : Int32) (x3 : Int32) (x4 : Int64) (x6 : Int32), g6 σ x2 x3 x4 x6 = some (r, σ') → At p l e 4 109 s m args below meth c D (cw ad cy) (cas ad) cy (some (.long r)) σ' 9 6 [(0, .ref (ad 12)), (1, .ref (ad 6)), (2, .int x2), (3, .int x3), (4, .long x4), (6, .int x6)] [] σ) : ∀ (σ : SS) (x2 : Int32) (x3 : Int32) (x4 : Int64) (x6 : Int32), f_c_X1_content_6 g6 σ x2 x3 x4 x6 = some (r, σ') → At p l e 4 109 s m args below meth c D (cw ad cy) (cas ad) cy (some (.long r)) σ' 9 6 [(0, .ref (ad 12)), (1, .ref (ad 6)), (2, .int x2), (3, .int x3), (4, .long x4), (6, .int x6)] [] σ := by
  intro σ x2 x3 x4 x6 hf H locs ls hG hl
  unfold f_c_X1_content_6 at hf
  refine lv_iload E.1 E.2.1 dX1_content_6 (lv_at hl 5 rfl) ?_
  refine lv_aload_n E.1 E.2.1 dX1_content_8 rfl (lv_at hl 1 rfl) ?_
  refine fg_c_X1_22_6 E hG dX1_content_9 ?_
  refine lv_icmp_ge (tgt := 63) E.1 E.2.1 dX1_content_12 (by decide) (fun hc => ?_) (fun hc => ?_)
  · replace hf := (if_pos hc).symm.trans hf
    refine lv_lload E.1 E.2.1 dX1_content_63 (lv_at hl 4 rfl) ?_
    exact r_l E hr hlk hG hf dX1_content_65
  · replace hf := (if_neg hc).symm.trans hf
    refine lv_aload_n E.1 E.2.1 dX1_content_15 rfl (lv_at hl 1 rfl) ?_
    refine fg_c_X1_28_6 E hG dX1_content_16 ?_
    refine lv_iload E.1 E.2.1 dX1_content_19 (lv_at hl 5 rfl) ?_
    obtain ⟨hin, hf⟩ := gd_some hf
    refine al_c_11 E hG hin dX1_content_21 ?_
    refine lv_istore (lv' := [(7, .int (σ.2 7 (Int32.toNatClampNeg x6))), (0, .ref (ad 12)), (1, .ref (ad 6)), (2, .int x2), (3, .int x3), (4, .long x4), (6, .int x6)]) E.1 E.2.1 dX1_content_22 hl (by decide) rfl (fun ls hl => ?_)
    refine lv_aload_n E.1 E.2.1 dX1_content_24 rfl (lv_at hl 2 rfl) ?_
    refine fg_c_X1_31_6 E hG dX1_content_25 ?_
    refine lv_aload_n E.1 E.2.1 dX1_content_28 rfl (lv_at hl 2 rfl) ?_
    refine fg_c_X1_34_6 E hG dX1_content_29 ?_
    refine lv_iload E.1 E.2.1 dX1_content_32 (lv_at hl 6 rfl) ?_
    obtain ⟨hin, hf⟩ := gd_some hf
    refine al_c_9 E hG hin dX1_content_34 ?_
    obtain ⟨hin, hf⟩ := gd_some hf
    refine al_c_8 E hG hin dX1_content_35 ?_
    refine lv_istore (lv' := [(8, .int (σ.2 4 (Int32.toNatClampNeg (σ.2 5 (Int32.toNatClampNeg x6))))), (7, .int (σ.2 7 (Int32.toNatClampNeg x6))), (0, .ref (ad 12)), (1, .ref (ad 6)), (2, .int x2), (3, .int x3), (4, .long x4), (6, .int x6)]) E.1 E.2.1 dX1_content_36 hl (by decide) rfl (fun ls hl => ?_)
    refine lv_lload E.1 E.2.1 dX1_content_38 (lv_at hl 6 rfl) ?_
    refine lv_iload E.1 E.2.1 dX1_content_40 (lv_at hl 1 rfl) ?_
    refine lv_i2l E.1 E.2.1 dX1_content_42 rfl ?_
    refine lv_aload_n E.1 E.2.1 dX1_content_43 rfl (lv_at hl 2 rfl) ?_
    refine lv_iload E.1 E.2.1 dX1_content_44 (lv_at hl 1 rfl) ?_
    refine lv_iload E.1 E.2.1 dX1_content_46 (lv_at hl 0 rfl) ?_
    refine lv_iload_n E.1 E.2.1 dX1_content_48 rfl (lv_at hl 4 rfl) ?_
    refine lv_iload_n E.1 E.2.1 dX1_content_49 rfl (lv_at hl 5 rfl) ?_
    obtain ⟨r50, σ50, hcl, hf⟩ := bd_some hf
    refine cl_V (rest := [.long (Int32.toInt64 (σ.2 7 (Int32.toNatClampNeg x6))), .long x4]) (st1 := [.long r50, .long (Int32.toInt64 (σ.2 7 (Int32.toNatClampNeg x6))), .long x4]) (As := [.int (σ.2 7 (Int32.toNatClampNeg x6)), .int (σ.2 4 (Int32.toNatClampNeg (σ.2 5 (Int32.toNatClampNeg x6)))), .int x2, .int x3]) E hG (c_c_X1_partInWhole hcl) Wd_480 mi_X1_partInWhole ⟨Nat.le_of_ble_eq_true rfl, Nat.le_of_ble_eq_true rfl, Nat.zero_le _, Nat.zero_le _⟩ 3 12 rfl rfl rfl hl.1 rfl (Nat.le_of_ble_eq_true rfl) dX1_content_50 rfl (fun H locs hG => ?_)
    refine lv_lmul E.1 E.2.1 dX1_content_53 ?_
    refine lv_ladd E.1 E.2.1 dX1_content_54 ?_
    refine lv_lstore (lv' := [(4, .long (x4 + ((Int32.toInt64 (σ.2 7 (Int32.toNatClampNeg x6))) * r50))), (8, .int (σ.2 4 (Int32.toNatClampNeg (σ.2 5 (Int32.toNatClampNeg x6))))), (7, .int (σ.2 7 (Int32.toNatClampNeg x6))), (0, .ref (ad 12)), (1, .ref (ad 6)), (2, .int x2), (3, .int x3), (6, .int x6)]) E.1 E.2.1 dX1_content_55 hl (by decide) rfl (fun ls hl => ?_)
    refine lv_iinc (v := (x6 + (1 : Int32))) (lv' := [(6, .int (x6 + (1 : Int32))), (4, .long (x4 + ((Int32.toInt64 (σ.2 7 (Int32.toNatClampNeg x6))) * r50))), (8, .int (σ.2 4 (Int32.toNatClampNeg (σ.2 5 (Int32.toNatClampNeg x6))))), (7, .int (σ.2 7 (Int32.toNatClampNeg x6))), (0, .ref (ad 12)), (1, .ref (ad 6)), (2, .int x2), (3, .int x3)]) E.1 E.2.1 dX1_content_57 hl (k := 7) rfl rfl (by decide) rfl (fun ls hl => ?_)
    refine lv_goto (tgt := 6) E.1 E.2.1 dX1_content_60 (by decide) ?_
    exact hg6 _ _ _ _ _ hf _ _ _ hG (lv_sub hl [4, 5, 6, 7, 1, 0] rfl)

set_option maxHeartbeats 4000000 in
set_option maxRecDepth 100000 in
theorem c_c_X1_content {l : Launch} {D : va_G} {ad : Nat → Nat} {cy : ClassId} {σ : SS} {x2 : Int32} {x3 : Int32} {r : Int64} {σ' : SS} (hf : f_c_X1_content σ x2 x3 = some (r, σ')) : Ctr l D (cw ad cy) (cas ad) cy yX1_content cX1_content 9 (some FieldType.long) 4 109 [.ref (ad 12), .ref (ad 6), .int x2, .int x3] σ (some (.long r)) σ' := by
  refine Ctr.of (cw_as ad cy) rfl (Nat.le_of_ble_eq_true rfl) (fun p e s m args below meth c ls E hr hlk hl hG => ?_)
  have hl : lv_has ls 9 [(0, .ref (ad 12)), (1, .ref (ad 6)), (2, .int x2), (3, .int x3)] := hl
  unfold f_c_X1_content at hf
  refine lv_lconst (v := (0 : Int64)) E.1 E.2.1 dX1_content_0 (by decide) ?_
  refine lv_lstore (lv' := [(4, .long (0 : Int64)), (0, .ref (ad 12)), (1, .ref (ad 6)), (2, .int x2), (3, .int x3)]) E.1 E.2.1 dX1_content_1 hl (by decide) rfl (fun ls hl => ?_)
  refine lv_iconst (v := (0 : Int32)) E.1 E.2.1 dX1_content_3 (by decide) ?_
  refine lv_istore (lv' := [(6, .int (0 : Int32)), (4, .long (0 : Int64)), (0, .ref (ad 12)), (1, .ref (ad 6)), (2, .int x2), (3, .int x3)]) E.1 E.2.1 dX1_content_4 hl (by decide) rfl (fun ls hl => ?_)
  exact L4_at (P := fun σ x2 x3 x4 x6 => At p l e 4 109 s m args below meth c D (cw ad cy) (cas ad) cy (some (.long r)) σ' 9 6 [(0, .ref (ad 12)), (1, .ref (ad 6)), (2, .int x2), (3, .int x3), (4, .long x4), (6, .int x6)] [] σ) (fun g hg => k_c_X1_content_6 E hr hlk g hg) FUEL _ _ _ _ _ hf _ _ _ hG (lv_sub hl [2, 3, 4, 5, 1, 0] rfl)

set_option maxHeartbeats 4000000 in
set_option maxRecDepth 100000 in
theorem c_c_X11_costOfKind {l : Launch} {D : va_G} {ad : Nat → Nat} {cy : ClassId} {σ : SS} {x1 : Int32} {x2 : Int32} {x3 : Int32} {r : Int64} {σ' : SS} (hf : f_c_X11_costOfKind σ x1 x2 x3 = some (r, σ')) : Ctr l D (cw ad cy) (cas ad) cy yX11_costOfKind cX11_costOfKind 4 (some FieldType.long) 5 137 [.ref (ad 0), .int x1, .int x2, .int x3] σ (some (.long r)) σ' := by
  refine Ctr.of (cw_as ad cy) rfl (Nat.le_of_ble_eq_true rfl) (fun p e s m args below meth c ls E hr hlk hl hG => ?_)
  have hl : lv_has ls 4 [(0, .ref (ad 0)), (1, .int x1), (2, .int x2), (3, .int x3)] := hl
  unfold f_c_X11_costOfKind at hf
  refine lv_iload_n E.1 E.2.1 dX11_costOfKind_0 rfl (lv_at hl 1 rfl) ?_
  refine lv_if_ne (tgt := 29) E.1 E.2.1 dX11_costOfKind_1 (by decide) (fun hc => ?_) (fun hc => ?_)
  · replace hf := (if_neg hc).symm.trans hf
    refine lv_iload_n E.1 E.2.1 dX11_costOfKind_29 rfl (lv_at hl 1 rfl) ?_
    refine lv_iconst (v := (1 : Int32)) E.1 E.2.1 dX11_costOfKind_30 (by decide) ?_
    refine lv_icmp_ne (tgt := 54) E.1 E.2.1 dX11_costOfKind_31 (by decide) (fun hc => ?_) (fun hc => ?_)
    · replace hf := (if_neg hc).symm.trans hf
      refine lv_aload_n E.1 E.2.1 dX11_costOfKind_54 rfl (lv_at hl 0 rfl) ?_
      refine fg_c_X11_33_0 E hG dX11_costOfKind_55 ?_
      refine lv_aload_n E.1 E.2.1 dX11_costOfKind_58 rfl (lv_at hl 0 rfl) ?_
      refine fg_c_X11_10_0 E hG dX11_costOfKind_59 ?_
      refine lv_iload_n E.1 E.2.1 dX11_costOfKind_62 rfl (lv_at hl 2 rfl) ?_
      refine lv_iload_n E.1 E.2.1 dX11_costOfKind_63 rfl (lv_at hl 3 rfl) ?_
      obtain ⟨r64, σ64, hcl, hf⟩ := bd_some hf
      refine cl_V (rest := []) (st1 := [.long r64]) (As := [.ref (ad 1), .int x2, .int x3]) E hG (c_c_X1_growing hcl) Wd_492 mi_X1_growing ⟨Nat.le_of_ble_eq_true rfl, Nat.le_of_ble_eq_true rfl, Nat.zero_le _, Nat.zero_le _⟩ 3 12 rfl rfl rfl hl.1 rfl (Nat.le_of_ble_eq_true rfl) dX11_costOfKind_64 rfl (fun H locs hG => ?_)
      exact r_l E hr hlk hG hf dX11_costOfKind_67
    · replace hf := (if_pos hc).symm.trans hf
      refine lv_aload_n E.1 E.2.1 dX11_costOfKind_34 rfl (lv_at hl 0 rfl) ?_
      refine fg_c_X11_33_0 E hG dX11_costOfKind_35 ?_
      refine lv_aload_n E.1 E.2.1 dX11_costOfKind_38 rfl (lv_at hl 0 rfl) ?_
      refine fg_c_X11_10_0 E hG dX11_costOfKind_39 ?_
      refine lv_aload_n E.1 E.2.1 dX11_costOfKind_42 rfl (lv_at hl 0 rfl) ?_
      refine fg_c_X11_19_0 E hG dX11_costOfKind_43 ?_
      refine lv_iload_n E.1 E.2.1 dX11_costOfKind_46 rfl (lv_at hl 2 rfl) ?_
      refine lv_iload_n E.1 E.2.1 dX11_costOfKind_47 rfl (lv_at hl 3 rfl) ?_
      obtain ⟨r48, σ48, hcl, hf⟩ := bd_some hf
      refine cl_V (rest := []) (st1 := [.long r48]) (As := [.ref (ad 1), .ref (ad 4), .int x2, .int x3]) E hG (c_c_X1_cross hcl) Wd_488 mi_X1_cross ⟨Nat.le_of_ble_eq_true rfl, Nat.le_of_ble_eq_true rfl, Nat.zero_le _, Nat.zero_le _⟩ 3 12 rfl rfl rfl hl.1 rfl (Nat.le_of_ble_eq_true rfl) dX11_costOfKind_48 rfl (fun H locs hG => ?_)
      refine lv_goto (tgt := 67) E.1 E.2.1 dX11_costOfKind_51 (by decide) ?_
      exact r_l E hr hlk hG hf dX11_costOfKind_67
  · replace hf := (if_pos hc).symm.trans hf
    refine lv_aload_n E.1 E.2.1 dX11_costOfKind_4 rfl (lv_at hl 0 rfl) ?_
    refine fg_c_X11_26_0 E hG dX11_costOfKind_5 ?_
    refine lv_aload_n E.1 E.2.1 dX11_costOfKind_8 rfl (lv_at hl 0 rfl) ?_
    refine fg_c_X11_10_0 E hG dX11_costOfKind_9 ?_
    obtain ⟨r12, σ12, hcl, hf⟩ := bd_some hf
    refine cl_V (rest := []) (st1 := []) (As := [.ref (ad 1)]) E hG (c_c_X0_follow hcl) Wd_391 mi_X0_follow ⟨Nat.le_of_ble_eq_true rfl, Nat.le_of_ble_eq_true rfl, Nat.zero_le _, Nat.zero_le _⟩ 2 6 rfl rfl rfl hl.1 rfl (Nat.le_of_ble_eq_true rfl) dX11_costOfKind_12 rfl (fun H locs hG => ?_)
    refine lv_aload_n E.1 E.2.1 dX11_costOfKind_15 rfl (lv_at hl 0 rfl) ?_
    refine fg_c_X11_33_0 E hG dX11_costOfKind_16 ?_
    refine lv_aload_n E.1 E.2.1 dX11_costOfKind_19 rfl (lv_at hl 0 rfl) ?_
    refine fg_c_X11_26_0 E hG dX11_costOfKind_20 ?_
    refine lv_iload_n E.1 E.2.1 dX11_costOfKind_23 rfl (lv_at hl 2 rfl) ?_
    refine lv_iload_n E.1 E.2.1 dX11_costOfKind_24 rfl (lv_at hl 3 rfl) ?_
    obtain ⟨r25, σ25, hcl, hf⟩ := bd_some hf
    refine cl_V (rest := []) (st1 := [.long r25]) (As := [.ref (ad 6), .int x2, .int x3]) E hG (c_c_X1_content hcl) Wd_476 mi_X1_content ⟨Nat.le_of_ble_eq_true rfl, Nat.le_of_ble_eq_true rfl, Nat.zero_le _, Nat.zero_le _⟩ 3 12 rfl rfl rfl hl.1 rfl (Nat.le_of_ble_eq_true rfl) dX11_costOfKind_25 rfl (fun H locs hG => ?_)
    exact r_l E hr hlk hG hf dX11_costOfKind_28

set_option maxHeartbeats 4000000 in
set_option maxRecDepth 100000 in
theorem c_c_X11_isCostKind {l : Launch} {D : va_G} {ad : Nat → Nat} {cy : ClassId} {σ : SS} {x0 : Int32} {r : Int32} {σ' : SS} (hf : f_c_X11_isCostKind σ x0 = some (r, σ')) : Ctr l D (cw ad cy) (cas ad) cy yX11_isCostKind cX11_isCostKind 1 (some FieldType.boolean) 1 22 [.int x0] σ (some (.int r)) σ' := by
  refine Ctr.of (cw_as ad cy) rfl (Nat.le_of_ble_eq_true rfl) (fun p e s m args below meth c ls E hr hlk hl hG => ?_)
  have hl : lv_has ls 1 [(0, .int x0)] := hl
  unfold f_c_X11_isCostKind at hf
  refine lv_iload_n E.1 E.2.1 dX11_isCostKind_0 rfl (lv_at hl 0 rfl) ?_
  refine lv_iconst (v := (0 : Int32)) E.1 E.2.1 dX11_isCostKind_1 (by decide) ?_
  refine lv_iconst (v := (2 : Int32)) E.1 E.2.1 dX11_isCostKind_2 (by decide) ?_
  obtain ⟨r3, σ3, hcl, hf⟩ := bd_some hf
  refine cl_S (rest := []) (st1 := [.int r3]) (As := [.int x0, .int (0 : Int32), .int (2 : Int32)]) E hG (c_c_X11_within hcl) Wd_365 mi_X11_within ⟨Nat.le_of_ble_eq_true rfl, Nat.le_of_ble_eq_true rfl, Nat.zero_le _, Nat.zero_le _⟩ rfl hl.1 rfl (Nat.le_of_ble_eq_true rfl) dX11_isCostKind_3 rfl (fun H locs hG => ?_)
  obtain ⟨hz, hf⟩ := gb_some hf
  exact r_z E hr hlk hG hf hz dX11_isCostKind_6

set_option maxHeartbeats 4000000 in
set_option maxRecDepth 100000 in
theorem k_c_X9_cover_2 {p : Program} {l : Launch} {e : Env} {s : State} {m : MethodId} {args : Array Value} {below : List Frame} {meth : Method} {c : Code} {D : va_G} {ad : Nat → Nat} {cy : ClassId} {r : Int32} {σ' : SS} (E : CallFix p m c cX9_cover 3 s args TT yX9_cover.cls) (hr : meth.sig.returnType = (some FieldType.boolean)) (hlk : meth.locks = false) (g2 : SS → Int32 → Option (Int32 × SS)) (hg2 : ∀ (σ : SS) (x2 : Int32), g2 σ x2 = some (r, σ') → At p l e 0 0 s m args below meth c D (cw ad cy) (cas ad) cy (some (.int r)) σ' 3 2 [(0, .ref (ad 4)), (1, .ref (ad 1)), (2, .int x2)] [] σ) : ∀ (σ : SS) (x2 : Int32), f_c_X9_cover_2 g2 σ x2 = some (r, σ') → At p l e 0 0 s m args below meth c D (cw ad cy) (cas ad) cy (some (.int r)) σ' 3 2 [(0, .ref (ad 4)), (1, .ref (ad 1)), (2, .int x2)] [] σ := by
  intro σ x2 hf H locs ls hG hl
  unfold f_c_X9_cover_2 at hf
  refine lv_iload_n E.1 E.2.1 dX9_cover_2 rfl (lv_at hl 2 rfl) ?_
  refine lv_bipush (v := (16 : Int32)) E.1 E.2.1 dX9_cover_3 (by decide) ?_
  refine lv_icmp_ge (tgt := 34) E.1 E.2.1 dX9_cover_5 (by decide) (fun hc => ?_) (fun hc => ?_)
  · replace hf := (if_pos hc).symm.trans hf
    refine lv_iconst (v := (1 : Int32)) E.1 E.2.1 dX9_cover_34 (by decide) ?_
    exact r_z E hr hlk hG hf (by decide +kernel) dX9_cover_35
  · replace hf := (if_neg hc).symm.trans hf
    refine lv_aload_n E.1 E.2.1 dX9_cover_8 rfl (lv_at hl 1 rfl) ?_
    refine fg_c_X9_19_1 E hG dX9_cover_9 ?_
    refine lv_iload_n E.1 E.2.1 dX9_cover_12 rfl (lv_at hl 2 rfl) ?_
    obtain ⟨hin, hf⟩ := gd_some hf
    refine al_c_3 E hG hin dX9_cover_13 ?_
    refine lv_if_le (tgt := 28) E.1 E.2.1 dX9_cover_14 (by decide) (fun hc => ?_) (fun hc => ?_)
    · replace hf := (if_pos hc).symm.trans hf
      refine lv_iinc (v := (x2 + (1 : Int32))) (lv' := [(2, .int (x2 + (1 : Int32))), (0, .ref (ad 4)), (1, .ref (ad 1))]) E.1 E.2.1 dX9_cover_28 hl (k := 2) rfl rfl (by decide) rfl (fun ls hl => ?_)
      refine lv_goto (tgt := 2) E.1 E.2.1 dX9_cover_31 (by decide) ?_
      exact hg2 _ _ hf _ _ _ hG (lv_sub hl [1, 2, 0] rfl)
    · replace hf := (if_neg hc).symm.trans hf
      refine lv_aload_n E.1 E.2.1 dX9_cover_17 rfl (lv_at hl 0 rfl) ?_
      refine fg_c_X9_9_4 E hG dX9_cover_18 ?_
      refine lv_iload_n E.1 E.2.1 dX9_cover_21 rfl (lv_at hl 2 rfl) ?_
      obtain ⟨hin, hf⟩ := gd_some hf
      refine al_c_5 E hG hin dX9_cover_22 ?_
      refine lv_if_ne (tgt := 28) E.1 E.2.1 dX9_cover_23 (by decide) (fun hc => ?_) (fun hc => ?_)
      · replace hf := (if_neg hc).symm.trans hf
        refine lv_iinc (v := (x2 + (1 : Int32))) (lv' := [(2, .int (x2 + (1 : Int32))), (0, .ref (ad 4)), (1, .ref (ad 1))]) E.1 E.2.1 dX9_cover_28 hl (k := 2) rfl rfl (by decide) rfl (fun ls hl => ?_)
        refine lv_goto (tgt := 2) E.1 E.2.1 dX9_cover_31 (by decide) ?_
        exact hg2 _ _ hf _ _ _ hG (lv_sub hl [1, 2, 0] rfl)
      · replace hf := (if_pos hc).symm.trans hf
        refine lv_iconst (v := (0 : Int32)) E.1 E.2.1 dX9_cover_26 (by decide) ?_
        exact r_z E hr hlk hG hf (by decide +kernel) dX9_cover_27

set_option maxHeartbeats 4000000 in
set_option maxRecDepth 100000 in
theorem c_c_X9_cover {l : Launch} {D : va_G} {ad : Nat → Nat} {cy : ClassId} {σ : SS} {r : Int32} {σ' : SS} (hf : f_c_X9_cover σ = some (r, σ')) : Ctr l D (cw ad cy) (cas ad) cy yX9_cover cX9_cover 3 (some FieldType.boolean) 0 0 [.ref (ad 4), .ref (ad 1)] σ (some (.int r)) σ' := by
  refine Ctr.of (cw_as ad cy) rfl (Nat.le_of_ble_eq_true rfl) (fun p e s m args below meth c ls E hr hlk hl hG => ?_)
  have hl : lv_has ls 3 [(0, .ref (ad 4)), (1, .ref (ad 1))] := hl
  unfold f_c_X9_cover at hf
  refine lv_iconst (v := (0 : Int32)) E.1 E.2.1 dX9_cover_0 (by decide) ?_
  refine lv_istore_n (lv' := [(2, .int (0 : Int32)), (0, .ref (ad 4)), (1, .ref (ad 1))]) E.1 E.2.1 dX9_cover_1 rfl hl (by decide) rfl (fun ls hl => ?_)
  exact L1_at (P := fun σ x2 => At p l e 0 0 s m args below meth c D (cw ad cy) (cas ad) cy (some (.int r)) σ' 3 2 [(0, .ref (ad 4)), (1, .ref (ad 1)), (2, .int x2)] [] σ) (fun g hg => k_c_X9_cover_2 E hr hlk g hg) FUEL _ _ hf _ _ _ hG (lv_sub hl [1, 2, 0] rfl)

set_option maxHeartbeats 4000000 in
set_option maxRecDepth 100000 in
theorem k_c_X11_cost_51 {p : Program} {l : Launch} {e : Env} {s : State} {m : MethodId} {args : Array Value} {below : List Frame} {meth : Method} {c : Code} {D : va_G} {ad : Nat → Nat} {cy : ClassId} {r : Int64} {σ' : SS} (E : CallFix p m c cX11_cost 4 s args TT yX11_cost.cls) (hr : meth.sig.returnType = (some FieldType.long)) (hlk : meth.locks = false) : ∀ (σ : SS) (x1 : Int32) (x2 : Int32) (x3 : Int32), f_c_X11_cost_51 σ x1 x2 x3 = some (r, σ') → At p l e 6 160 s m args below meth c D (cw ad cy) (cas ad) cy (some (.long r)) σ' 4 51 [(0, .ref (ad 0)), (1, .int x1), (2, .int x2), (3, .int x3)] [] σ := by
  intro σ x1 x2 x3 hf H locs ls hG hl
  unfold f_c_X11_cost_51 at hf
  refine lv_aload_n E.1 E.2.1 dX11_cost_51 rfl (lv_at hl 0 rfl) ?_
  refine lv_iload_n E.1 E.2.1 dX11_cost_52 rfl (lv_at hl 1 rfl) ?_
  refine lv_iload_n E.1 E.2.1 dX11_cost_53 rfl (lv_at hl 2 rfl) ?_
  refine lv_iload_n E.1 E.2.1 dX11_cost_54 rfl (lv_at hl 3 rfl) ?_
  obtain ⟨r55, σ55, hcl, hf⟩ := bd_some hf
  refine cl_V (rest := []) (st1 := [.long r55]) (As := [.int x1, .int x2, .int x3]) E hG (c_c_X11_costOfKind hcl) Wd_472 mi_X11_costOfKind ⟨Nat.le_of_ble_eq_true rfl, Nat.le_of_ble_eq_true rfl, Nat.zero_le _, Nat.zero_le _⟩ 12 0 rfl rfl rfl hl.1 rfl (Nat.le_of_ble_eq_true rfl) dX11_cost_55 rfl (fun H locs hG => ?_)
  exact r_l E hr hlk hG hf dX11_cost_58

set_option maxHeartbeats 4000000 in
set_option maxRecDepth 100000 in
theorem c_c_X11_cost {l : Launch} {D : va_G} {ad : Nat → Nat} {cy : ClassId} {σ : SS} {x1 : Int32} {x2 : Int32} {x3 : Int32} {r : Int64} {σ' : SS} (hf : f_c_X11_cost σ x1 x2 x3 = some (r, σ')) : Ctr l D (cw ad cy) (cas ad) cy yX11_cost cX11_cost 4 (some FieldType.long) 6 160 [.ref (ad 0), .int x1, .int x2, .int x3] σ (some (.long r)) σ' := by
  refine Ctr.of (cw_as ad cy) rfl (Nat.le_of_ble_eq_true rfl) (fun p e s m args below meth c ls E hr hlk hl hG => ?_)
  have hl : lv_has ls 4 [(0, .ref (ad 0)), (1, .int x1), (2, .int x2), (3, .int x3)] := hl
  unfold f_c_X11_cost at hf
  refine lv_iload_n E.1 E.2.1 dX11_cost_0 rfl (lv_at hl 1 rfl) ?_
  obtain ⟨r1, σ1, hcl, hf⟩ := bd_some hf
  refine cl_S (rest := []) (st1 := [.int r1]) (As := [.int x1]) E hG (c_c_X11_isCostKind hcl) Wd_464 mi_X11_isCostKind ⟨Nat.le_of_ble_eq_true rfl, Nat.le_of_ble_eq_true rfl, Nat.zero_le _, Nat.zero_le _⟩ rfl hl.1 rfl (Nat.le_of_ble_eq_true rfl) dX11_cost_1 rfl (fun H locs hG => ?_)
  refine lv_if_eq (tgt := 24) E.1 E.2.1 dX11_cost_4 (by decide) (fun hc => ?_) (fun hc => ?_)
  · replace hf := (if_pos hc).symm.trans hf
    refine lv_ldc2 E.1 E.2.1 E.2.2.2.1 (E.2.2.2.2 _ Wd_435) dX11_cost_24 ?_
    exact r_l E hr hlk hG hf dX11_cost_27
  · replace hf := (if_neg hc).symm.trans hf
    refine lv_iload_n E.1 E.2.1 dX11_cost_7 rfl (lv_at hl 2 rfl) ?_
    refine lv_iconst (v := (0 : Int32)) E.1 E.2.1 dX11_cost_8 (by decide) ?_
    refine lv_bipush (v := (24 : Int32)) E.1 E.2.1 dX11_cost_9 (by decide) ?_
    obtain ⟨r11, σ11, hcl, hf⟩ := bd_some hf
    refine cl_S (rest := []) (st1 := [.int r11]) (As := [.int x2, .int (0 : Int32), .int (24 : Int32)]) E hG (c_c_X11_within hcl) Wd_365 mi_X11_within ⟨Nat.le_of_ble_eq_true rfl, Nat.le_of_ble_eq_true rfl, Nat.zero_le _, Nat.zero_le _⟩ rfl hl.1 rfl (Nat.le_of_ble_eq_true rfl) dX11_cost_11 rfl (fun H locs hG => ?_)
    refine lv_if_eq (tgt := 24) E.1 E.2.1 dX11_cost_14 (by decide) (fun hc => ?_) (fun hc => ?_)
    · replace hf := (if_pos hc).symm.trans hf
      refine lv_ldc2 E.1 E.2.1 E.2.2.2.1 (E.2.2.2.2 _ Wd_435) dX11_cost_24 ?_
      exact r_l E hr hlk hG hf dX11_cost_27
    · replace hf := (if_neg hc).symm.trans hf
      refine lv_iload_n E.1 E.2.1 dX11_cost_17 rfl (lv_at hl 3 rfl) ?_
      obtain ⟨r18, σ18, hcl, hf⟩ := bd_some hf
      refine cl_S (rest := []) (st1 := [.int r18]) (As := [.int x3]) E hG (c_c_X11_isSide hcl) Wd_432 mi_X11_isSide ⟨Nat.le_of_ble_eq_true rfl, Nat.le_of_ble_eq_true rfl, Nat.zero_le _, Nat.zero_le _⟩ rfl hl.1 rfl (Nat.le_of_ble_eq_true rfl) dX11_cost_18 rfl (fun H locs hG => ?_)
      refine lv_if_ne (tgt := 28) E.1 E.2.1 dX11_cost_21 (by decide) (fun hc => ?_) (fun hc => ?_)
      · replace hf := (if_neg hc).symm.trans hf
        refine lv_iload_n E.1 E.2.1 dX11_cost_28 rfl (lv_at hl 1 rfl) ?_
        refine lv_iconst (v := (1 : Int32)) E.1 E.2.1 dX11_cost_29 (by decide) ?_
        refine lv_icmp_ne (tgt := 51) E.1 E.2.1 dX11_cost_30 (by decide) (fun hc => ?_) (fun hc => ?_)
        · replace hf := (if_neg hc).symm.trans hf
          exact k_c_X11_cost_51 E hr hlk _ _ _ _ hf _ _ _ hG (lv_sub hl [0, 1, 2, 3] rfl)
        · replace hf := (if_pos hc).symm.trans hf
          refine lv_aload_n E.1 E.2.1 dX11_cost_33 rfl (lv_at hl 0 rfl) ?_
          refine fg_c_X11_19_0 E hG dX11_cost_34 ?_
          refine lv_aload_n E.1 E.2.1 dX11_cost_37 rfl (lv_at hl 0 rfl) ?_
          refine fg_c_X11_10_0 E hG dX11_cost_38 ?_
          obtain ⟨r41, σ41, hcl, hf⟩ := bd_some hf
          refine cl_V (rest := []) (st1 := [.int r41]) (As := [.ref (ad 1)]) E hG (c_c_X9_cover hcl) Wd_467 mi_X9_cover ⟨Nat.le_of_ble_eq_true rfl, Nat.le_of_ble_eq_true rfl, Nat.zero_le _, Nat.zero_le _⟩ 10 4 rfl rfl rfl hl.1 rfl (Nat.le_of_ble_eq_true rfl) dX11_cost_41 rfl (fun H locs hG => ?_)
          refine lv_if_ne (tgt := 51) E.1 E.2.1 dX11_cost_44 (by decide) (fun hc => ?_) (fun hc => ?_)
          · replace hf := (if_neg hc).symm.trans hf
            exact k_c_X11_cost_51 E hr hlk _ _ _ _ hf _ _ _ hG (lv_sub hl [0, 1, 2, 3] rfl)
          · replace hf := (if_pos hc).symm.trans hf
            refine lv_ldc2 E.1 E.2.1 E.2.2.2.1 (E.2.2.2.2 _ Wd_471) dX11_cost_47 ?_
            exact r_l E hr hlk hG hf dX11_cost_50
      · replace hf := (if_pos hc).symm.trans hf
        refine lv_ldc2 E.1 E.2.1 E.2.2.2.1 (E.2.2.2.2 _ Wd_435) dX11_cost_24 ?_
        exact r_l E hr hlk hG hf dX11_cost_27

set_option maxHeartbeats 4000000 in
set_option maxRecDepth 100000 in
theorem k_c_X11_digits_43 {p : Program} {l : Launch} {e : Env} {s : State} {m : MethodId} {args : Array Value} {below : List Frame} {meth : Method} {c : Code} {D : va_G} {ad : Nat → Nat} {cy : ClassId} {r : Int32} {σ' : SS} (E : CallFix p m c cX11_digits 6 s args TT yX11_digits.cls) (hr : meth.sig.returnType = (some FieldType.int)) (hlk : meth.locks = false) (g43 : SS → Int32 → Int32 → Int32 → Option (Int32 × SS)) (hg43 : ∀ (σ : SS) (x1 : Int32) (x2 : Int32) (x3 : Int32), g43 σ x1 x2 x3 = some (r, σ') → At p l e 6 160 s m args below meth c D (cw ad cy) (cas ad) cy (some (.int r)) σ' 6 43 [(0, .ref (ad 0)), (1, .int x1), (2, .int x2), (3, .int x3)] [] σ) : ∀ (σ : SS) (x1 : Int32) (x2 : Int32) (x3 : Int32), f_c_X11_digits_43 g43 σ x1 x2 x3 = some (r, σ') → At p l e 6 160 s m args below meth c D (cw ad cy) (cas ad) cy (some (.int r)) σ' 6 43 [(0, .ref (ad 0)), (1, .int x1), (2, .int x2), (3, .int x3)] [] σ := by
  intro σ x1 x2 x3 hf H locs ls hG hl
  unfold f_c_X11_digits_43 at hf
  refine lv_iload_n E.1 E.2.1 dX11_digits_43 rfl (lv_at hl 3 rfl) ?_
  refine lv_bipush (v := (24 : Int32)) E.1 E.2.1 dX11_digits_44 (by decide) ?_
  refine lv_icmp_gt (tgt := 88) E.1 E.2.1 dX11_digits_46 (by decide) (fun hc => ?_) (fun hc => ?_)
  · replace hf := (if_pos hc).symm.trans hf
    refine lv_bipush (v := (-2 : Int32)) E.1 E.2.1 dX11_digits_88 (by decide) ?_
    exact r_i E hr hlk hG hf dX11_digits_90
  · replace hf := (if_neg hc).symm.trans hf
    refine lv_aload_n E.1 E.2.1 dX11_digits_49 rfl (lv_at hl 0 rfl) ?_
    refine lv_iload_n E.1 E.2.1 dX11_digits_50 rfl (lv_at hl 1 rfl) ?_
    refine lv_iload_n E.1 E.2.1 dX11_digits_51 rfl (lv_at hl 3 rfl) ?_
    refine lv_iconst (v := (1 : Int32)) E.1 E.2.1 dX11_digits_52 (by decide) ?_
    obtain ⟨r53, σ53, hcl, hf⟩ := bd_some hf
    refine cl_V (rest := []) (st1 := [.long r53]) (As := [.int x1, .int x3, .int (1 : Int32)]) E hG (c_c_X11_costOfKind hcl) Wd_472 mi_X11_costOfKind ⟨Nat.le_of_ble_eq_true rfl, Nat.le_of_ble_eq_true rfl, Nat.zero_le _, Nat.zero_le _⟩ 12 0 rfl rfl rfl hl.1 rfl (Nat.le_of_ble_eq_true rfl) dX11_digits_53 rfl (fun H locs hG => ?_)
    refine lv_aload_n E.1 E.2.1 dX11_digits_56 rfl (lv_at hl 0 rfl) ?_
    refine lv_iload_n E.1 E.2.1 dX11_digits_57 rfl (lv_at hl 1 rfl) ?_
    refine lv_iload_n E.1 E.2.1 dX11_digits_58 rfl (lv_at hl 3 rfl) ?_
    refine lv_iconst (v := (0 : Int32)) E.1 E.2.1 dX11_digits_59 (by decide) ?_
    obtain ⟨r60, σ60, hcl, hf⟩ := bd_some hf
    refine cl_V (rest := [.long r53]) (st1 := [.long r60, .long r53]) (As := [.int x1, .int x3, .int (0 : Int32)]) E hG (c_c_X11_costOfKind hcl) Wd_472 mi_X11_costOfKind ⟨Nat.le_of_ble_eq_true rfl, Nat.le_of_ble_eq_true rfl, Nat.zero_le _, Nat.zero_le _⟩ 12 0 rfl rfl rfl hl.1 rfl (Nat.le_of_ble_eq_true rfl) dX11_digits_60 rfl (fun H locs hG => ?_)
    refine lv_lsub E.1 E.2.1 dX11_digits_63 ?_
    refine lv_lstore (lv' := [(4, .long (r53 - r60)), (0, .ref (ad 0)), (1, .int x1), (2, .int x2), (3, .int x3)]) E.1 E.2.1 dX11_digits_64 hl (by decide) rfl (fun ls hl => ?_)
    refine lv_lload E.1 E.2.1 dX11_digits_66 (lv_at hl 0 rfl) ?_
    refine lv_ldc2 E.1 E.2.1 E.2.2.2.1 (E.2.2.2.2 _ Wd_502) dX11_digits_68 ?_
    refine lv_lmul E.1 E.2.1 dX11_digits_71 ?_
    refine lv_iload_n E.1 E.2.1 dX11_digits_72 rfl (lv_at hl 3 rfl) ?_
    refine lv_i2l E.1 E.2.1 dX11_digits_73 rfl ?_
    refine lv_iload_n E.1 E.2.1 dX11_digits_74 rfl (lv_at hl 4 rfl) ?_
    refine lv_lshl E.1 E.2.1 dX11_digits_75 rfl ?_
    refine W.lcmp E.1 E.2.1 dX11_digits_76 ?_
    refine lv_if_gt (tgt := 82) E.1 E.2.1 dX11_digits_77 (by decide) (fun hc => ?_) (fun hc => ?_)
    · replace hf := (if_pos hc).symm.trans hf
      refine lv_iinc (v := (x3 + (1 : Int32))) (lv' := [(3, .int (x3 + (1 : Int32))), (4, .long (r53 - r60)), (0, .ref (ad 0)), (1, .int x1), (2, .int x2)]) E.1 E.2.1 dX11_digits_82 hl (k := 4) rfl rfl (by decide) rfl (fun ls hl => ?_)
      refine lv_goto (tgt := 43) E.1 E.2.1 dX11_digits_85 (by decide) ?_
      exact hg43 _ _ _ _ hf _ _ _ hG (lv_sub hl [2, 3, 4, 0] rfl)
    · replace hf := (if_neg hc).symm.trans hf
      refine lv_iload_n E.1 E.2.1 dX11_digits_80 rfl (lv_at hl 4 rfl) ?_
      exact r_i E hr hlk hG hf dX11_digits_81

set_option maxHeartbeats 4000000 in
set_option maxRecDepth 100000 in
theorem c_c_X11_digits {l : Launch} {D : va_G} {ad : Nat → Nat} {cy : ClassId} {σ : SS} {x1 : Int32} {x2 : Int32} {r : Int32} {σ' : SS} (hf : f_c_X11_digits σ x1 x2 = some (r, σ')) : Ctr l D (cw ad cy) (cas ad) cy yX11_digits cX11_digits 6 (some FieldType.int) 6 160 [.ref (ad 0), .int x1, .int x2] σ (some (.int r)) σ' := by
  refine Ctr.of (cw_as ad cy) rfl (Nat.le_of_ble_eq_true rfl) (fun p e s m args below meth c ls E hr hlk hl hG => ?_)
  have hl : lv_has ls 6 [(0, .ref (ad 0)), (1, .int x1), (2, .int x2)] := hl
  unfold f_c_X11_digits at hf
  refine lv_iload_n E.1 E.2.1 dX11_digits_0 rfl (lv_at hl 1 rfl) ?_
  obtain ⟨r1, σ1, hcl, hf⟩ := bd_some hf
  refine cl_S (rest := []) (st1 := [.int r1]) (As := [.int x1]) E hG (c_c_X11_isCostKind hcl) Wd_464 mi_X11_isCostKind ⟨Nat.le_of_ble_eq_true rfl, Nat.le_of_ble_eq_true rfl, Nat.zero_le _, Nat.zero_le _⟩ rfl hl.1 rfl (Nat.le_of_ble_eq_true rfl) dX11_digits_1 rfl (fun H locs hG => ?_)
  refine lv_if_eq (tgt := 17) E.1 E.2.1 dX11_digits_4 (by decide) (fun hc => ?_) (fun hc => ?_)
  · replace hf := (if_pos hc).symm.trans hf
    refine lv_iconst (v := (-1 : Int32)) E.1 E.2.1 dX11_digits_17 (by decide) ?_
    exact r_i E hr hlk hG hf dX11_digits_18
  · replace hf := (if_neg hc).symm.trans hf
    refine lv_iload_n E.1 E.2.1 dX11_digits_7 rfl (lv_at hl 2 rfl) ?_
    refine lv_iconst (v := (0 : Int32)) E.1 E.2.1 dX11_digits_8 (by decide) ?_
    refine lv_ldc E.1 E.2.1 E.2.2.2.1 (E.2.2.2.2 _ Wd_501) dX11_digits_9 ?_
    obtain ⟨r11, σ11, hcl, hf⟩ := bd_some hf
    refine cl_S (rest := []) (st1 := [.int r11]) (As := [.int x2, .int (0 : Int32), .int (1000000 : Int32)]) E hG (c_c_X11_within hcl) Wd_365 mi_X11_within ⟨Nat.le_of_ble_eq_true rfl, Nat.le_of_ble_eq_true rfl, Nat.zero_le _, Nat.zero_le _⟩ rfl hl.1 rfl (Nat.le_of_ble_eq_true rfl) dX11_digits_11 rfl (fun H locs hG => ?_)
    refine lv_if_ne (tgt := 19) E.1 E.2.1 dX11_digits_14 (by decide) (fun hc => ?_) (fun hc => ?_)
    · replace hf := (if_neg hc).symm.trans hf
      refine lv_iload_n E.1 E.2.1 dX11_digits_19 rfl (lv_at hl 1 rfl) ?_
      refine lv_iconst (v := (1 : Int32)) E.1 E.2.1 dX11_digits_20 (by decide) ?_
      refine lv_icmp_ne (tgt := 41) E.1 E.2.1 dX11_digits_21 (by decide) (fun hc => ?_) (fun hc => ?_)
      · replace hf := (if_neg hc).symm.trans hf
        refine lv_iconst (v := (0 : Int32)) E.1 E.2.1 dX11_digits_41 (by decide) ?_
        refine lv_istore_n (lv' := [(3, .int (0 : Int32)), (0, .ref (ad 0)), (1, .int x1), (2, .int x2)]) E.1 E.2.1 dX11_digits_42 rfl hl (by decide) rfl (fun ls hl => ?_)
        exact L3_at (P := fun σ x1 x2 x3 => At p l e 6 160 s m args below meth c D (cw ad cy) (cas ad) cy (some (.int r)) σ' 6 43 [(0, .ref (ad 0)), (1, .int x1), (2, .int x2), (3, .int x3)] [] σ) (fun g hg => k_c_X11_digits_43 E hr hlk g hg) FUEL _ _ _ _ hf _ _ _ hG (lv_sub hl [1, 2, 3, 0] rfl)
      · replace hf := (if_pos hc).symm.trans hf
        refine lv_aload_n E.1 E.2.1 dX11_digits_24 rfl (lv_at hl 0 rfl) ?_
        refine fg_c_X11_19_0 E hG dX11_digits_25 ?_
        refine lv_aload_n E.1 E.2.1 dX11_digits_28 rfl (lv_at hl 0 rfl) ?_
        refine fg_c_X11_10_0 E hG dX11_digits_29 ?_
        obtain ⟨r32, σ32, hcl, hf⟩ := bd_some hf
        refine cl_V (rest := []) (st1 := [.int r32]) (As := [.ref (ad 1)]) E hG (c_c_X9_cover hcl) Wd_467 mi_X9_cover ⟨Nat.le_of_ble_eq_true rfl, Nat.le_of_ble_eq_true rfl, Nat.zero_le _, Nat.zero_le _⟩ 10 4 rfl rfl rfl hl.1 rfl (Nat.le_of_ble_eq_true rfl) dX11_digits_32 rfl (fun H locs hG => ?_)
        refine lv_if_ne (tgt := 41) E.1 E.2.1 dX11_digits_35 (by decide) (fun hc => ?_) (fun hc => ?_)
        · replace hf := (if_neg hc).symm.trans hf
          refine lv_iconst (v := (0 : Int32)) E.1 E.2.1 dX11_digits_41 (by decide) ?_
          refine lv_istore_n (lv' := [(3, .int (0 : Int32)), (0, .ref (ad 0)), (1, .int x1), (2, .int x2)]) E.1 E.2.1 dX11_digits_42 rfl hl (by decide) rfl (fun ls hl => ?_)
          exact L3_at (P := fun σ x1 x2 x3 => At p l e 6 160 s m args below meth c D (cw ad cy) (cas ad) cy (some (.int r)) σ' 6 43 [(0, .ref (ad 0)), (1, .int x1), (2, .int x2), (3, .int x3)] [] σ) (fun g hg => k_c_X11_digits_43 E hr hlk g hg) FUEL _ _ _ _ hf _ _ _ hG (lv_sub hl [1, 2, 3, 0] rfl)
        · replace hf := (if_pos hc).symm.trans hf
          refine lv_bipush (v := (-2 : Int32)) E.1 E.2.1 dX11_digits_38 (by decide) ?_
          exact r_i E hr hlk hG hf dX11_digits_40
    · replace hf := (if_pos hc).symm.trans hf
      refine lv_iconst (v := (-1 : Int32)) E.1 E.2.1 dX11_digits_17 (by decide) ?_
      exact r_i E hr hlk hG hf dX11_digits_18

set_option maxHeartbeats 4000000 in
set_option maxRecDepth 100000 in
theorem k_c_X10_widenTree_2 {p : Program} {l : Launch} {e : Env} {s : State} {m : MethodId} {args : Array Value} {below : List Frame} {meth : Method} {c : Code} {D : va_G} {ad : Nat → Nat} {cy : ClassId} {r : Unit} {σ' : SS} (E : CallFix p m c cX10_widenTree 3 s args TT yX10_widenTree.cls) (hr : meth.sig.returnType = none) (hlk : meth.locks = false) (g2 : SS → Int32 → Int32 → Option (Unit × SS)) (hg2 : ∀ (σ : SS) (x1 : Int32) (x2 : Int32), g2 σ x1 x2 = some (r, σ') → At p l e 0 0 s m args below meth c D (cw ad cy) (cas ad) cy (none) σ' 3 2 [(0, .ref (ad 16)), (1, .int x1), (2, .int x2)] [] σ) : ∀ (σ : SS) (x1 : Int32) (x2 : Int32), f_c_X10_widenTree_2 g2 σ x1 x2 = some (r, σ') → At p l e 0 0 s m args below meth c D (cw ad cy) (cas ad) cy (none) σ' 3 2 [(0, .ref (ad 16)), (1, .int x1), (2, .int x2)] [] σ := by
  intro σ x1 x2 hf H locs ls hG hl
  unfold f_c_X10_widenTree_2 at hf
  refine lv_iload_n E.1 E.2.1 dX10_widenTree_2 rfl (lv_at hl 2 rfl) ?_
  refine lv_bipush (v := (16 : Int32)) E.1 E.2.1 dX10_widenTree_3 (by decide) ?_
  refine lv_icmp_ge (tgt := 44) E.1 E.2.1 dX10_widenTree_5 (by decide) (fun hc => ?_) (fun hc => ?_)
  · replace hf := (if_pos hc).symm.trans hf
    exact r_v E hr hlk hG hf dX10_widenTree_44
  · replace hf := (if_neg hc).symm.trans hf
    refine lv_aload_n E.1 E.2.1 dX10_widenTree_8 rfl (lv_at hl 0 rfl) ?_
    refine fg_c_X10_18_16 E hG dX10_widenTree_9 ?_
    refine lv_iload_n E.1 E.2.1 dX10_widenTree_12 rfl (lv_at hl 2 rfl) ?_
    obtain ⟨hin, hf⟩ := gd_some hf
    refine al_c_19 E hG hin dX10_widenTree_13 ?_
    refine lv_iload_n E.1 E.2.1 dX10_widenTree_14 rfl (lv_at hl 1 rfl) ?_
    refine lv_icmp_ne (tgt := 38) E.1 E.2.1 dX10_widenTree_15 (by decide) (fun hc => ?_) (fun hc => ?_)
    · replace hf := (if_neg hc).symm.trans hf
      refine lv_iinc (v := (x2 + (1 : Int32))) (lv' := [(2, .int (x2 + (1 : Int32))), (0, .ref (ad 16)), (1, .int x1)]) E.1 E.2.1 dX10_widenTree_38 hl (k := 2) rfl rfl (by decide) rfl (fun ls hl => ?_)
      refine lv_goto (tgt := 2) E.1 E.2.1 dX10_widenTree_41 (by decide) ?_
      exact hg2 _ _ _ hf _ _ _ hG (lv_sub hl [1, 2, 0] rfl)
    · replace hf := (if_pos hc).symm.trans hf
      refine lv_aload_n E.1 E.2.1 dX10_widenTree_18 rfl (lv_at hl 0 rfl) ?_
      refine fg_c_X10_18_16 E hG dX10_widenTree_19 ?_
      refine lv_iload_n E.1 E.2.1 dX10_widenTree_22 rfl (lv_at hl 2 rfl) ?_
      refine lv_aload_n E.1 E.2.1 dX10_widenTree_23 rfl (lv_at hl 0 rfl) ?_
      refine fg_c_X10_34_16 E hG dX10_widenTree_24 ?_
      obtain ⟨hin, hf⟩ := gd_some hf
      refine as_c_19 E hG hin dX10_widenTree_27 (fun H locs hG => ?_)
      refine lv_aload_n E.1 E.2.1 dX10_widenTree_28 rfl (lv_at hl 0 rfl) ?_
      refine fg_c_X10_9_16 E hG dX10_widenTree_29 ?_
      refine lv_iload_n E.1 E.2.1 dX10_widenTree_32 rfl (lv_at hl 2 rfl) ?_
      refine lv_dup2_11 E.1 E.2.1 dX10_widenTree_33 rfl rfl ?_
      obtain ⟨hin, hf⟩ := gd_some hf
      refine al_c_17 E hG hin dX10_widenTree_34 ?_
      refine lv_iconst (v := (1 : Int32)) E.1 E.2.1 dX10_widenTree_35 (by decide) ?_
      refine lv_iadd E.1 E.2.1 dX10_widenTree_36 ?_
      obtain ⟨hin, hf⟩ := gd_some hf
      refine as_c_17 E hG hin dX10_widenTree_37 (fun H locs hG => ?_)
      refine lv_iinc (v := (x2 + (1 : Int32))) (lv' := [(2, .int (x2 + (1 : Int32))), (0, .ref (ad 16)), (1, .int x1)]) E.1 E.2.1 dX10_widenTree_38 hl (k := 2) rfl rfl (by decide) rfl (fun ls hl => ?_)
      refine lv_goto (tgt := 2) E.1 E.2.1 dX10_widenTree_41 (by decide) ?_
      exact hg2 _ _ _ hf _ _ _ hG (lv_sub hl [1, 2, 0] rfl)

set_option maxHeartbeats 4000000 in
set_option maxRecDepth 100000 in
theorem c_c_X10_widenTree {l : Launch} {D : va_G} {ad : Nat → Nat} {cy : ClassId} {σ : SS} {x1 : Int32} {r : Unit} {σ' : SS} (hf : f_c_X10_widenTree σ x1 = some (r, σ')) : Ctr l D (cw ad cy) (cas ad) cy yX10_widenTree cX10_widenTree 3 none 0 0 [.ref (ad 16), .int x1] σ (none) σ' := by
  refine Ctr.of (cw_as ad cy) rfl (Nat.le_of_ble_eq_true rfl) (fun p e s m args below meth c ls E hr hlk hl hG => ?_)
  have hl : lv_has ls 3 [(0, .ref (ad 16)), (1, .int x1)] := hl
  unfold f_c_X10_widenTree at hf
  refine lv_iconst (v := (0 : Int32)) E.1 E.2.1 dX10_widenTree_0 (by decide) ?_
  refine lv_istore_n (lv' := [(2, .int (0 : Int32)), (0, .ref (ad 16)), (1, .int x1)]) E.1 E.2.1 dX10_widenTree_1 rfl hl (by decide) rfl (fun ls hl => ?_)
  exact L2_at (P := fun σ x1 x2 => At p l e 0 0 s m args below meth c D (cw ad cy) (cas ad) cy (none) σ' 3 2 [(0, .ref (ad 16)), (1, .int x1), (2, .int x2)] [] σ) (fun g hg => k_c_X10_widenTree_2 E hr hlk g hg) FUEL _ _ _ hf _ _ _ hG (lv_sub hl [1, 2, 0] rfl)

set_option maxHeartbeats 4000000 in
set_option maxRecDepth 100000 in
theorem k_c_X10_takeLeastTree_47 {p : Program} {l : Launch} {e : Env} {s : State} {m : MethodId} {args : Array Value} {below : List Frame} {meth : Method} {c : Code} {D : va_G} {ad : Nat → Nat} {cy : ClassId} {r : Int32} {σ' : SS} (E : CallFix p m c cX10_takeLeastTree 5 s args TT yX10_takeLeastTree.cls) (hr : meth.sig.returnType = (some FieldType.int)) (hlk : meth.locks = false) (g4 : SS → Int32 → Int32 → Option (Int32 × SS)) (hg4 : ∀ (σ : SS) (x1 : Int32) (x2 : Int32), g4 σ x1 x2 = some (r, σ') → At p l e 1 22 s m args below meth c D (cw ad cy) (cas ad) cy (some (.int r)) σ' 5 4 [(0, .ref (ad 16)), (1, .int x1), (2, .int x2)] [] σ) : ∀ (σ : SS) (x1 : Int32) (x2 : Int32) (x3 : Int32) (y0 : Int32), f_c_X10_takeLeastTree_47 g4 σ x1 x2 x3 y0 = some (r, σ') → At p l e 1 22 s m args below meth c D (cw ad cy) (cas ad) cy (some (.int r)) σ' 5 47 [(0, .ref (ad 16)), (1, .int x1), (2, .int x2), (3, .int x3)] [.int y0] σ := by
  intro σ x1 x2 x3 y0 hf H locs ls hG hl
  unfold f_c_X10_takeLeastTree_47 at hf
  refine lv_istore (lv' := [(4, .int y0), (0, .ref (ad 16)), (1, .int x1), (2, .int x2), (3, .int x3)]) E.1 E.2.1 dX10_takeLeastTree_47 hl (by decide) rfl (fun ls hl => ?_)
  refine lv_aload_n E.1 E.2.1 dX10_takeLeastTree_49 rfl (lv_at hl 1 rfl) ?_
  refine fg_c_X10_15_16 E hG dX10_takeLeastTree_50 ?_
  refine lv_iload_n E.1 E.2.1 dX10_takeLeastTree_53 rfl (lv_at hl 3 rfl) ?_
  obtain ⟨hin, hf⟩ := gd_some hf
  refine al_c_18 E hG hin dX10_takeLeastTree_54 ?_
  refine lv_if_le (tgt := 69) E.1 E.2.1 dX10_takeLeastTree_55 (by decide) (fun hc => ?_) (fun hc => ?_)
  · replace hf := (if_pos hc).symm.trans hf
    refine lv_iinc (v := (x2 + (1 : Int32))) (lv' := [(2, .int (x2 + (1 : Int32))), (4, .int y0), (0, .ref (ad 16)), (1, .int x1), (3, .int x3)]) E.1 E.2.1 dX10_takeLeastTree_69 hl (k := 3) rfl rfl (by decide) rfl (fun ls hl => ?_)
    refine lv_goto (tgt := 4) E.1 E.2.1 dX10_takeLeastTree_72 (by decide) ?_
    exact hg4 _ _ _ hf _ _ _ hG (lv_sub hl [2, 3, 0] rfl)
  · replace hf := (if_neg hc).symm.trans hf
    refine lv_iload_n E.1 E.2.1 dX10_takeLeastTree_58 rfl (lv_at hl 4 rfl) ?_
    refine lv_if_ne (tgt := 67) E.1 E.2.1 dX10_takeLeastTree_59 (by decide) (fun hc => ?_) (fun hc => ?_)
    · replace hf := (if_neg hc).symm.trans hf
      refine lv_iload_n E.1 E.2.1 dX10_takeLeastTree_67 rfl (lv_at hl 3 rfl) ?_
      refine lv_istore_n (lv' := [(1, .int x2), (4, .int y0), (0, .ref (ad 16)), (2, .int x2), (3, .int x3)]) E.1 E.2.1 dX10_takeLeastTree_68 rfl hl (by decide) rfl (fun ls hl => ?_)
      refine lv_iinc (v := (x2 + (1 : Int32))) (lv' := [(2, .int (x2 + (1 : Int32))), (1, .int x2), (4, .int y0), (0, .ref (ad 16)), (3, .int x3)]) E.1 E.2.1 dX10_takeLeastTree_69 hl (k := 3) rfl rfl (by decide) rfl (fun ls hl => ?_)
      refine lv_goto (tgt := 4) E.1 E.2.1 dX10_takeLeastTree_72 (by decide) ?_
      exact hg4 _ _ _ hf _ _ _ hG (lv_sub hl [3, 1, 0] rfl)
    · replace hf := (if_pos hc).symm.trans hf
      refine lv_iload E.1 E.2.1 dX10_takeLeastTree_62 (lv_at hl 0 rfl) ?_
      refine lv_if_eq (tgt := 69) E.1 E.2.1 dX10_takeLeastTree_64 (by decide) (fun hc => ?_) (fun hc => ?_)
      · replace hf := (if_pos hc).symm.trans hf
        refine lv_iinc (v := (x2 + (1 : Int32))) (lv' := [(2, .int (x2 + (1 : Int32))), (4, .int y0), (0, .ref (ad 16)), (1, .int x1), (3, .int x3)]) E.1 E.2.1 dX10_takeLeastTree_69 hl (k := 3) rfl rfl (by decide) rfl (fun ls hl => ?_)
        refine lv_goto (tgt := 4) E.1 E.2.1 dX10_takeLeastTree_72 (by decide) ?_
        exact hg4 _ _ _ hf _ _ _ hG (lv_sub hl [2, 3, 0] rfl)
      · replace hf := (if_neg hc).symm.trans hf
        refine lv_iload_n E.1 E.2.1 dX10_takeLeastTree_67 rfl (lv_at hl 3 rfl) ?_
        refine lv_istore_n (lv' := [(1, .int x2), (4, .int y0), (0, .ref (ad 16)), (2, .int x2), (3, .int x3)]) E.1 E.2.1 dX10_takeLeastTree_68 rfl hl (by decide) rfl (fun ls hl => ?_)
        refine lv_iinc (v := (x2 + (1 : Int32))) (lv' := [(2, .int (x2 + (1 : Int32))), (1, .int x2), (4, .int y0), (0, .ref (ad 16)), (3, .int x3)]) E.1 E.2.1 dX10_takeLeastTree_69 hl (k := 3) rfl rfl (by decide) rfl (fun ls hl => ?_)
        refine lv_goto (tgt := 4) E.1 E.2.1 dX10_takeLeastTree_72 (by decide) ?_
        exact hg4 _ _ _ hf _ _ _ hG (lv_sub hl [3, 1, 0] rfl)

set_option maxHeartbeats 4000000 in
set_option maxRecDepth 100000 in
theorem k_c_X10_takeLeastTree_26 {p : Program} {l : Launch} {e : Env} {s : State} {m : MethodId} {args : Array Value} {below : List Frame} {meth : Method} {c : Code} {D : va_G} {ad : Nat → Nat} {cy : ClassId} {r : Int32} {σ' : SS} (E : CallFix p m c cX10_takeLeastTree 5 s args TT yX10_takeLeastTree.cls) (hr : meth.sig.returnType = (some FieldType.int)) (hlk : meth.locks = false) (g4 : SS → Int32 → Int32 → Option (Int32 × SS)) (hg4 : ∀ (σ : SS) (x1 : Int32) (x2 : Int32), g4 σ x1 x2 = some (r, σ') → At p l e 1 22 s m args below meth c D (cw ad cy) (cas ad) cy (some (.int r)) σ' 5 4 [(0, .ref (ad 16)), (1, .int x1), (2, .int x2)] [] σ) : ∀ (σ : SS) (x1 : Int32) (x2 : Int32) (y0 : Int32), f_c_X10_takeLeastTree_26 g4 σ x1 x2 y0 = some (r, σ') → At p l e 1 22 s m args below meth c D (cw ad cy) (cas ad) cy (some (.int r)) σ' 5 26 [(0, .ref (ad 16)), (1, .int x1), (2, .int x2)] [.int y0] σ := by
  intro σ x1 x2 y0 hf H locs ls hG hl
  unfold f_c_X10_takeLeastTree_26 at hf
  refine lv_istore_n (lv' := [(3, .int y0), (0, .ref (ad 16)), (1, .int x1), (2, .int x2)]) E.1 E.2.1 dX10_takeLeastTree_26 rfl hl (by decide) rfl (fun ls hl => ?_)
  refine lv_aload_n E.1 E.2.1 dX10_takeLeastTree_27 rfl (lv_at hl 1 rfl) ?_
  refine fg_c_X10_15_16 E hG dX10_takeLeastTree_28 ?_
  refine lv_iload_n E.1 E.2.1 dX10_takeLeastTree_31 rfl (lv_at hl 3 rfl) ?_
  obtain ⟨hin, hf⟩ := gd_some hf
  refine al_c_18 E hG hin dX10_takeLeastTree_32 ?_
  refine lv_aload_n E.1 E.2.1 dX10_takeLeastTree_33 rfl (lv_at hl 1 rfl) ?_
  refine fg_c_X10_15_16 E hG dX10_takeLeastTree_34 ?_
  refine lv_iload_n E.1 E.2.1 dX10_takeLeastTree_37 rfl (lv_at hl 2 rfl) ?_
  obtain ⟨hin, hf⟩ := gd_some hf
  refine al_c_18 E hG hin dX10_takeLeastTree_38 ?_
  refine lv_icmp_ge (tgt := 46) E.1 E.2.1 dX10_takeLeastTree_39 (by decide) (fun hc => ?_) (fun hc => ?_)
  · replace hf := (if_pos hc).symm.trans hf
    refine lv_iconst (v := (0 : Int32)) E.1 E.2.1 dX10_takeLeastTree_46 (by decide) ?_
    exact k_c_X10_takeLeastTree_47 E hr hlk g4 hg4 _ _ _ _ _ hf _ _ _ hG (lv_sub hl [1, 2, 3, 0] rfl)
  · replace hf := (if_neg hc).symm.trans hf
    refine lv_iconst (v := (1 : Int32)) E.1 E.2.1 dX10_takeLeastTree_42 (by decide) ?_
    refine lv_goto (tgt := 47) E.1 E.2.1 dX10_takeLeastTree_43 (by decide) ?_
    exact k_c_X10_takeLeastTree_47 E hr hlk g4 hg4 _ _ _ _ _ hf _ _ _ hG (lv_sub hl [1, 2, 3, 0] rfl)

set_option maxHeartbeats 4000000 in
set_option maxRecDepth 100000 in
theorem k_c_X10_takeLeastTree_4 {p : Program} {l : Launch} {e : Env} {s : State} {m : MethodId} {args : Array Value} {below : List Frame} {meth : Method} {c : Code} {D : va_G} {ad : Nat → Nat} {cy : ClassId} {r : Int32} {σ' : SS} (E : CallFix p m c cX10_takeLeastTree 5 s args TT yX10_takeLeastTree.cls) (hr : meth.sig.returnType = (some FieldType.int)) (hlk : meth.locks = false) (g4 : SS → Int32 → Int32 → Option (Int32 × SS)) (hg4 : ∀ (σ : SS) (x1 : Int32) (x2 : Int32), g4 σ x1 x2 = some (r, σ') → At p l e 1 22 s m args below meth c D (cw ad cy) (cas ad) cy (some (.int r)) σ' 5 4 [(0, .ref (ad 16)), (1, .int x1), (2, .int x2)] [] σ) : ∀ (σ : SS) (x1 : Int32) (x2 : Int32), f_c_X10_takeLeastTree_4 g4 σ x1 x2 = some (r, σ') → At p l e 1 22 s m args below meth c D (cw ad cy) (cas ad) cy (some (.int r)) σ' 5 4 [(0, .ref (ad 16)), (1, .int x1), (2, .int x2)] [] σ := by
  intro σ x1 x2 hf H locs ls hG hl
  unfold f_c_X10_takeLeastTree_4 at hf
  refine lv_iload_n E.1 E.2.1 dX10_takeLeastTree_4 rfl (lv_at hl 2 rfl) ?_
  refine lv_aload_n E.1 E.2.1 dX10_takeLeastTree_5 rfl (lv_at hl 0 rfl) ?_
  refine fg_c_X10_34_16 E hG dX10_takeLeastTree_6 ?_
  refine lv_icmp_ge (tgt := 75) E.1 E.2.1 dX10_takeLeastTree_9 (by decide) (fun hc => ?_) (fun hc => ?_)
  · replace hf := (if_pos hc).symm.trans hf
    refine lv_aload_n E.1 E.2.1 dX10_takeLeastTree_75 rfl (lv_at hl 0 rfl) ?_
    refine fg_c_X10_15_16 E hG dX10_takeLeastTree_76 ?_
    refine lv_iload_n E.1 E.2.1 dX10_takeLeastTree_79 rfl (lv_at hl 1 rfl) ?_
    obtain ⟨hin, hf⟩ := gd_some hf
    refine al_c_18 E hG hin dX10_takeLeastTree_80 ?_
    refine lv_istore_n (lv' := [(2, .int (σ.2 11 (Int32.toNatClampNeg x1))), (0, .ref (ad 16)), (1, .int x1)]) E.1 E.2.1 dX10_takeLeastTree_81 rfl hl (by decide) rfl (fun ls hl => ?_)
    refine lv_aload_n E.1 E.2.1 dX10_takeLeastTree_82 rfl (lv_at hl 1 rfl) ?_
    refine fg_c_X10_15_16 E hG dX10_takeLeastTree_83 ?_
    refine lv_iload_n E.1 E.2.1 dX10_takeLeastTree_86 rfl (lv_at hl 2 rfl) ?_
    refine lv_iconst (v := (0 : Int32)) E.1 E.2.1 dX10_takeLeastTree_87 (by decide) ?_
    obtain ⟨hin, hf⟩ := gd_some hf
    refine as_c_18 E hG hin dX10_takeLeastTree_88 (fun H locs hG => ?_)
    refine lv_aload_n E.1 E.2.1 dX10_takeLeastTree_89 rfl (lv_at hl 1 rfl) ?_
    refine lv_iload_n E.1 E.2.1 dX10_takeLeastTree_90 rfl (lv_at hl 2 rfl) ?_
    obtain ⟨r91, σ91, hcl, hf⟩ := bd_some hf
    refine cl_V (rest := []) (st1 := []) (As := [.int x1]) E hG (c_c_X10_widenTree hcl) Wd_515 mi_X10_widenTree ⟨Nat.le_of_ble_eq_true rfl, Nat.le_of_ble_eq_true rfl, Nat.zero_le _, Nat.zero_le _⟩ 11 16 rfl rfl rfl hl.1 rfl (Nat.le_of_ble_eq_true rfl) dX10_takeLeastTree_91 rfl (fun H locs hG => ?_)
    refine lv_iload_n E.1 E.2.1 dX10_takeLeastTree_94 rfl (lv_at hl 0 rfl) ?_
    exact r_i E hr hlk hG hf dX10_takeLeastTree_95
  · replace hf := (if_neg hc).symm.trans hf
    refine lv_aload_n E.1 E.2.1 dX10_takeLeastTree_12 rfl (lv_at hl 0 rfl) ?_
    refine fg_c_X10_15_16 E hG dX10_takeLeastTree_13 ?_
    refine lv_iload_n E.1 E.2.1 dX10_takeLeastTree_16 rfl (lv_at hl 1 rfl) ?_
    obtain ⟨hin, hf⟩ := gd_some hf
    refine al_c_18 E hG hin dX10_takeLeastTree_17 ?_
    refine lv_if_ne (tgt := 25) E.1 E.2.1 dX10_takeLeastTree_18 (by decide) (fun hc => ?_) (fun hc => ?_)
    · replace hf := (if_neg hc).symm.trans hf
      refine lv_iconst (v := (0 : Int32)) E.1 E.2.1 dX10_takeLeastTree_25 (by decide) ?_
      exact k_c_X10_takeLeastTree_26 E hr hlk g4 hg4 _ _ _ _ hf _ _ _ hG (lv_sub hl [0, 1, 2] rfl)
    · replace hf := (if_pos hc).symm.trans hf
      refine lv_iconst (v := (1 : Int32)) E.1 E.2.1 dX10_takeLeastTree_21 (by decide) ?_
      refine lv_goto (tgt := 26) E.1 E.2.1 dX10_takeLeastTree_22 (by decide) ?_
      exact k_c_X10_takeLeastTree_26 E hr hlk g4 hg4 _ _ _ _ hf _ _ _ hG (lv_sub hl [0, 1, 2] rfl)

set_option maxHeartbeats 4000000 in
set_option maxRecDepth 100000 in
theorem c_c_X10_takeLeastTree {l : Launch} {D : va_G} {ad : Nat → Nat} {cy : ClassId} {σ : SS} {r : Int32} {σ' : SS} (hf : f_c_X10_takeLeastTree σ = some (r, σ')) : Ctr l D (cw ad cy) (cas ad) cy yX10_takeLeastTree cX10_takeLeastTree 5 (some FieldType.int) 1 22 [.ref (ad 16)] σ (some (.int r)) σ' := by
  refine Ctr.of (cw_as ad cy) rfl (Nat.le_of_ble_eq_true rfl) (fun p e s m args below meth c ls E hr hlk hl hG => ?_)
  have hl : lv_has ls 5 [(0, .ref (ad 16))] := hl
  unfold f_c_X10_takeLeastTree at hf
  refine lv_iconst (v := (0 : Int32)) E.1 E.2.1 dX10_takeLeastTree_0 (by decide) ?_
  refine lv_istore_n (lv' := [(1, .int (0 : Int32)), (0, .ref (ad 16))]) E.1 E.2.1 dX10_takeLeastTree_1 rfl hl (by decide) rfl (fun ls hl => ?_)
  refine lv_iconst (v := (1 : Int32)) E.1 E.2.1 dX10_takeLeastTree_2 (by decide) ?_
  refine lv_istore_n (lv' := [(2, .int (1 : Int32)), (1, .int (0 : Int32)), (0, .ref (ad 16))]) E.1 E.2.1 dX10_takeLeastTree_3 rfl hl (by decide) rfl (fun ls hl => ?_)
  exact L2_at (P := fun σ x1 x2 => At p l e 1 22 s m args below meth c D (cw ad cy) (cas ad) cy (some (.int r)) σ' 5 4 [(0, .ref (ad 16)), (1, .int x1), (2, .int x2)] [] σ) (fun g hg => k_c_X10_takeLeastTree_4 E hr hlk g hg) FUEL _ _ _ hf _ _ _ hG (lv_sub hl [2, 1, 0] rfl)

set_option maxHeartbeats 4000000 in
set_option maxRecDepth 100000 in
theorem c_c_X10_joinTwoTrees {l : Launch} {D : va_G} {ad : Nat → Nat} {cy : ClassId} {σ : SS} {r : Unit} {σ' : SS} (hf : f_c_X10_joinTwoTrees σ = some (r, σ')) : Ctr l D (cw ad cy) (cas ad) cy yX10_joinTwoTrees cX10_joinTwoTrees 2 none 2 46 [.ref (ad 16)] σ (none) σ' := by
  refine Ctr.of (cw_as ad cy) rfl (Nat.le_of_ble_eq_true rfl) (fun p e s m args below meth c ls E hr hlk hl hG => ?_)
  have hl : lv_has ls 2 [(0, .ref (ad 16))] := hl
  unfold f_c_X10_joinTwoTrees at hf
  refine lv_aload_n E.1 E.2.1 dX10_joinTwoTrees_0 rfl (lv_at hl 0 rfl) ?_
  obtain ⟨r1, σ1, hcl, hf⟩ := bd_some hf
  refine cl_V (rest := []) (st1 := [.int r1]) (As := []) E hG (c_c_X10_takeLeastTree hcl) Wd_523 mi_X10_takeLeastTree ⟨Nat.le_of_ble_eq_true rfl, Nat.le_of_ble_eq_true rfl, Nat.zero_le _, Nat.zero_le _⟩ 11 16 rfl rfl rfl hl.1 rfl (Nat.le_of_ble_eq_true rfl) dX10_joinTwoTrees_1 rfl (fun H locs hG => ?_)
  refine lv_aload_n E.1 E.2.1 dX10_joinTwoTrees_4 rfl (lv_at hl 0 rfl) ?_
  obtain ⟨r5, σ5, hcl, hf⟩ := bd_some hf
  refine cl_V (rest := [.int r1]) (st1 := [.int r5, .int r1]) (As := []) E hG (c_c_X10_takeLeastTree hcl) Wd_523 mi_X10_takeLeastTree ⟨Nat.le_of_ble_eq_true rfl, Nat.le_of_ble_eq_true rfl, Nat.zero_le _, Nat.zero_le _⟩ 11 16 rfl rfl rfl hl.1 rfl (Nat.le_of_ble_eq_true rfl) dX10_joinTwoTrees_5 rfl (fun H locs hG => ?_)
  refine lv_iadd E.1 E.2.1 dX10_joinTwoTrees_8 ?_
  refine lv_istore_n (lv' := [(1, .int (r1 + r5)), (0, .ref (ad 16))]) E.1 E.2.1 dX10_joinTwoTrees_9 rfl hl (by decide) rfl (fun ls hl => ?_)
  refine lv_aload_n E.1 E.2.1 dX10_joinTwoTrees_10 rfl (lv_at hl 1 rfl) ?_
  refine fg_c_X10_15_16 E hG dX10_joinTwoTrees_11 ?_
  refine lv_aload_n E.1 E.2.1 dX10_joinTwoTrees_14 rfl (lv_at hl 1 rfl) ?_
  refine fg_c_X10_34_16 E hG dX10_joinTwoTrees_15 ?_
  refine lv_iload_n E.1 E.2.1 dX10_joinTwoTrees_18 rfl (lv_at hl 0 rfl) ?_
  obtain ⟨hin, hf⟩ := gd_some hf
  refine as_c_18 E hG hin dX10_joinTwoTrees_19 (fun H locs hG => ?_)
  refine lv_aload_n E.1 E.2.1 dX10_joinTwoTrees_20 rfl (lv_at hl 1 rfl) ?_
  refine lv_dup E.1 E.2.1 dX10_joinTwoTrees_21 rfl ?_
  refine fg_c_X10_34_16 E hG dX10_joinTwoTrees_22 ?_
  refine lv_iconst (v := (1 : Int32)) E.1 E.2.1 dX10_joinTwoTrees_25 (by decide) ?_
  refine lv_iadd E.1 E.2.1 dX10_joinTwoTrees_26 ?_
  refine fp_c_X10_34_16 E hG dX10_joinTwoTrees_27 (fun H locs hG => ?_)
  exact r_v E hr hlk hG hf dX10_joinTwoTrees_30

set_option maxHeartbeats 4000000 in
set_option maxRecDepth 100000 in
theorem k_c_X10_plantTrees_7 {p : Program} {l : Launch} {e : Env} {s : State} {m : MethodId} {args : Array Value} {below : List Frame} {meth : Method} {c : Code} {D : va_G} {ad : Nat → Nat} {cy : ClassId} {r : Unit} {σ' : SS} (E : CallFix p m c cX10_plantTrees 3 s args TT yX10_plantTrees.cls) (hr : meth.sig.returnType = none) (hlk : meth.locks = false) (g7 : SS → Int32 → Option (Unit × SS)) (hg7 : ∀ (σ : SS) (x2 : Int32), g7 σ x2 = some (r, σ') → At p l e 0 0 s m args below meth c D (cw ad cy) (cas ad) cy (none) σ' 3 7 [(0, .ref (ad 16)), (1, .ref (ad 1)), (2, .int x2)] [] σ) : ∀ (σ : SS) (x2 : Int32), f_c_X10_plantTrees_7 g7 σ x2 = some (r, σ') → At p l e 0 0 s m args below meth c D (cw ad cy) (cas ad) cy (none) σ' 3 7 [(0, .ref (ad 16)), (1, .ref (ad 1)), (2, .int x2)] [] σ := by
  intro σ x2 hf H locs ls hG hl
  unfold f_c_X10_plantTrees_7 at hf
  refine lv_iload_n E.1 E.2.1 dX10_plantTrees_7 rfl (lv_at hl 2 rfl) ?_
  refine lv_bipush (v := (16 : Int32)) E.1 E.2.1 dX10_plantTrees_8 (by decide) ?_
  refine lv_icmp_ge (tgt := 78) E.1 E.2.1 dX10_plantTrees_10 (by decide) (fun hc => ?_) (fun hc => ?_)
  · replace hf := (if_pos hc).symm.trans hf
    exact r_v E hr hlk hG hf dX10_plantTrees_78
  · replace hf := (if_neg hc).symm.trans hf
    refine lv_aload_n E.1 E.2.1 dX10_plantTrees_13 rfl (lv_at hl 0 rfl) ?_
    refine fg_c_X10_9_16 E hG dX10_plantTrees_14 ?_
    refine lv_iload_n E.1 E.2.1 dX10_plantTrees_17 rfl (lv_at hl 2 rfl) ?_
    refine lv_iconst (v := (0 : Int32)) E.1 E.2.1 dX10_plantTrees_18 (by decide) ?_
    obtain ⟨hin, hf⟩ := gd_some hf
    refine as_c_17 E hG hin dX10_plantTrees_19 (fun H locs hG => ?_)
    refine lv_aload_n E.1 E.2.1 dX10_plantTrees_20 rfl (lv_at hl 0 rfl) ?_
    refine fg_c_X10_18_16 E hG dX10_plantTrees_21 ?_
    refine lv_iload_n E.1 E.2.1 dX10_plantTrees_24 rfl (lv_at hl 2 rfl) ?_
    refine lv_bipush (v := (-2 : Int32)) E.1 E.2.1 dX10_plantTrees_25 (by decide) ?_
    obtain ⟨hin, hf⟩ := gd_some hf
    refine as_c_19 E hG hin dX10_plantTrees_27 (fun H locs hG => ?_)
    refine lv_aload_n E.1 E.2.1 dX10_plantTrees_28 rfl (lv_at hl 1 rfl) ?_
    refine fg_c_X10_44_1 E hG dX10_plantTrees_29 ?_
    refine lv_iload_n E.1 E.2.1 dX10_plantTrees_32 rfl (lv_at hl 2 rfl) ?_
    obtain ⟨hin, hf⟩ := gd_some hf
    refine al_c_3 E hG hin dX10_plantTrees_33 ?_
    refine lv_if_le (tgt := 72) E.1 E.2.1 dX10_plantTrees_34 (by decide) (fun hc => ?_) (fun hc => ?_)
    · replace hf := (if_pos hc).symm.trans hf
      refine lv_iinc (v := (x2 + (1 : Int32))) (lv' := [(2, .int (x2 + (1 : Int32))), (0, .ref (ad 16)), (1, .ref (ad 1))]) E.1 E.2.1 dX10_plantTrees_72 hl (k := 2) rfl rfl (by decide) rfl (fun ls hl => ?_)
      refine lv_goto (tgt := 7) E.1 E.2.1 dX10_plantTrees_75 (by decide) ?_
      exact hg7 _ _ hf _ _ _ hG (lv_sub hl [1, 2, 0] rfl)
    · replace hf := (if_neg hc).symm.trans hf
      refine lv_aload_n E.1 E.2.1 dX10_plantTrees_37 rfl (lv_at hl 0 rfl) ?_
      refine fg_c_X10_18_16 E hG dX10_plantTrees_38 ?_
      refine lv_iload_n E.1 E.2.1 dX10_plantTrees_41 rfl (lv_at hl 2 rfl) ?_
      refine lv_aload_n E.1 E.2.1 dX10_plantTrees_42 rfl (lv_at hl 0 rfl) ?_
      refine fg_c_X10_34_16 E hG dX10_plantTrees_43 ?_
      obtain ⟨hin, hf⟩ := gd_some hf
      refine as_c_19 E hG hin dX10_plantTrees_46 (fun H locs hG => ?_)
      refine lv_aload_n E.1 E.2.1 dX10_plantTrees_47 rfl (lv_at hl 0 rfl) ?_
      refine fg_c_X10_15_16 E hG dX10_plantTrees_48 ?_
      refine lv_aload_n E.1 E.2.1 dX10_plantTrees_51 rfl (lv_at hl 0 rfl) ?_
      refine fg_c_X10_34_16 E hG dX10_plantTrees_52 ?_
      refine lv_aload_n E.1 E.2.1 dX10_plantTrees_55 rfl (lv_at hl 1 rfl) ?_
      refine fg_c_X10_44_1 E hG dX10_plantTrees_56 ?_
      refine lv_iload_n E.1 E.2.1 dX10_plantTrees_59 rfl (lv_at hl 2 rfl) ?_
      obtain ⟨hin, hf⟩ := gd_some hf
      refine al_c_3 E hG hin dX10_plantTrees_60 ?_
      obtain ⟨hin, hf⟩ := gd_some hf
      refine as_c_18 E hG hin dX10_plantTrees_61 (fun H locs hG => ?_)
      refine lv_aload_n E.1 E.2.1 dX10_plantTrees_62 rfl (lv_at hl 0 rfl) ?_
      refine lv_dup E.1 E.2.1 dX10_plantTrees_63 rfl ?_
      refine fg_c_X10_34_16 E hG dX10_plantTrees_64 ?_
      refine lv_iconst (v := (1 : Int32)) E.1 E.2.1 dX10_plantTrees_67 (by decide) ?_
      refine lv_iadd E.1 E.2.1 dX10_plantTrees_68 ?_
      refine fp_c_X10_34_16 E hG dX10_plantTrees_69 (fun H locs hG => ?_)
      refine lv_iinc (v := (x2 + (1 : Int32))) (lv' := [(2, .int (x2 + (1 : Int32))), (0, .ref (ad 16)), (1, .ref (ad 1))]) E.1 E.2.1 dX10_plantTrees_72 hl (k := 2) rfl rfl (by decide) rfl (fun ls hl => ?_)
      refine lv_goto (tgt := 7) E.1 E.2.1 dX10_plantTrees_75 (by decide) ?_
      exact hg7 _ _ hf _ _ _ hG (lv_sub hl [1, 2, 0] rfl)

set_option maxHeartbeats 4000000 in
set_option maxRecDepth 100000 in
theorem c_c_X10_plantTrees {l : Launch} {D : va_G} {ad : Nat → Nat} {cy : ClassId} {σ : SS} {r : Unit} {σ' : SS} (hf : f_c_X10_plantTrees σ = some (r, σ')) : Ctr l D (cw ad cy) (cas ad) cy yX10_plantTrees cX10_plantTrees 3 none 0 0 [.ref (ad 16), .ref (ad 1)] σ (none) σ' := by
  refine Ctr.of (cw_as ad cy) rfl (Nat.le_of_ble_eq_true rfl) (fun p e s m args below meth c ls E hr hlk hl hG => ?_)
  have hl : lv_has ls 3 [(0, .ref (ad 16)), (1, .ref (ad 1))] := hl
  unfold f_c_X10_plantTrees at hf
  refine lv_aload_n E.1 E.2.1 dX10_plantTrees_0 rfl (lv_at hl 0 rfl) ?_
  refine lv_iconst (v := (0 : Int32)) E.1 E.2.1 dX10_plantTrees_1 (by decide) ?_
  refine fp_c_X10_34_16 E hG dX10_plantTrees_2 (fun H locs hG => ?_)
  refine lv_iconst (v := (0 : Int32)) E.1 E.2.1 dX10_plantTrees_5 (by decide) ?_
  refine lv_istore_n (lv' := [(2, .int (0 : Int32)), (0, .ref (ad 16)), (1, .ref (ad 1))]) E.1 E.2.1 dX10_plantTrees_6 rfl hl (by decide) rfl (fun ls hl => ?_)
  exact L1_at (P := fun σ x2 => At p l e 0 0 s m args below meth c D (cw ad cy) (cas ad) cy (none) σ' 3 7 [(0, .ref (ad 16)), (1, .ref (ad 1)), (2, .int x2)] [] σ) (fun g hg => k_c_X10_plantTrees_7 E hr hlk g hg) FUEL _ _ hf _ _ _ hG (lv_sub hl [1, 2, 0] rfl)

set_option maxHeartbeats 4000000 in
set_option maxRecDepth 100000 in
theorem k_c_X10_follow_45 {p : Program} {l : Launch} {e : Env} {s : State} {m : MethodId} {args : Array Value} {below : List Frame} {meth : Method} {c : Code} {D : va_G} {ad : Nat → Nat} {cy : ClassId} {r : Unit} {σ' : SS} (E : CallFix p m c cX10_follow 3 s args TT yX10_follow.cls) (hr : meth.sig.returnType = none) (hlk : meth.locks = false) (g45 : SS → Int32 → Option (Unit × SS)) (hg45 : ∀ (σ : SS) (x2 : Int32), g45 σ x2 = some (r, σ') → At p l e 3 67 s m args below meth c D (cw ad cy) (cas ad) cy (none) σ' 3 45 [(0, .ref (ad 16)), (2, .int x2)] [] σ) : ∀ (σ : SS) (x2 : Int32), f_c_X10_follow_45 g45 σ x2 = some (r, σ') → At p l e 3 67 s m args below meth c D (cw ad cy) (cas ad) cy (none) σ' 3 45 [(0, .ref (ad 16)), (2, .int x2)] [] σ := by
  intro σ x2 hf H locs ls hG hl
  unfold f_c_X10_follow_45 at hf
  refine lv_iload_n E.1 E.2.1 dX10_follow_45 rfl (lv_at hl 1 rfl) ?_
  refine lv_if_le (tgt := 59) E.1 E.2.1 dX10_follow_46 (by decide) (fun hc => ?_) (fun hc => ?_)
  · replace hf := (if_pos hc).symm.trans hf
    exact r_v E hr hlk hG hf dX10_follow_59
  · replace hf := (if_neg hc).symm.trans hf
    refine lv_aload_n E.1 E.2.1 dX10_follow_49 rfl (lv_at hl 0 rfl) ?_
    obtain ⟨r50, σ50, hcl, hf⟩ := bd_some hf
    refine cl_V (rest := []) (st1 := []) (As := []) E hG (c_c_X10_joinTwoTrees hcl) Wd_519 mi_X10_joinTwoTrees ⟨Nat.le_of_ble_eq_true rfl, Nat.le_of_ble_eq_true rfl, Nat.zero_le _, Nat.zero_le _⟩ 11 16 rfl rfl rfl hl.1 rfl (Nat.le_of_ble_eq_true rfl) dX10_follow_50 rfl (fun H locs hG => ?_)
    refine lv_iinc (v := (x2 + (-1 : Int32))) (lv' := [(2, .int (x2 + (-1 : Int32))), (0, .ref (ad 16))]) E.1 E.2.1 dX10_follow_53 hl (k := 1) rfl rfl (by decide) rfl (fun ls hl => ?_)
    refine lv_goto (tgt := 45) E.1 E.2.1 dX10_follow_56 (by decide) ?_
    exact hg45 _ _ hf _ _ _ hG (lv_sub hl [1, 0] rfl)

set_option maxHeartbeats 4000000 in
set_option maxRecDepth 100000 in
theorem k_c_X10_follow_38 {p : Program} {l : Launch} {e : Env} {s : State} {m : MethodId} {args : Array Value} {below : List Frame} {meth : Method} {c : Code} {D : va_G} {ad : Nat → Nat} {cy : ClassId} {r : Unit} {σ' : SS} (E : CallFix p m c cX10_follow 3 s args TT yX10_follow.cls) (hr : meth.sig.returnType = none) (hlk : meth.locks = false) : ∀ (σ : SS), f_c_X10_follow_38 σ = some (r, σ') → At p l e 3 67 s m args below meth c D (cw ad cy) (cas ad) cy (none) σ' 3 38 [(0, .ref (ad 16))] [] σ := by
  intro σ hf H locs ls hG hl
  unfold f_c_X10_follow_38 at hf
  refine lv_aload_n E.1 E.2.1 dX10_follow_38 rfl (lv_at hl 0 rfl) ?_
  refine fg_c_X10_34_16 E hG dX10_follow_39 ?_
  refine lv_iconst (v := (1 : Int32)) E.1 E.2.1 dX10_follow_42 (by decide) ?_
  refine lv_isub E.1 E.2.1 dX10_follow_43 ?_
  refine lv_istore_n (lv' := [(2, .int ((σ.1 7) - (1 : Int32))), (0, .ref (ad 16))]) E.1 E.2.1 dX10_follow_44 rfl hl (by decide) rfl (fun ls hl => ?_)
  exact L1_at (P := fun σ x2 => At p l e 3 67 s m args below meth c D (cw ad cy) (cas ad) cy (none) σ' 3 45 [(0, .ref (ad 16)), (2, .int x2)] [] σ) (fun g hg => k_c_X10_follow_45 E hr hlk g hg) FUEL _ _ hf _ _ _ hG (lv_sub hl [1, 0] rfl)

set_option maxHeartbeats 4000000 in
set_option maxRecDepth 100000 in
theorem c_c_X10_follow {l : Launch} {D : va_G} {ad : Nat → Nat} {cy : ClassId} {σ : SS} {r : Unit} {σ' : SS} (hf : f_c_X10_follow σ = some (r, σ')) : Ctr l D (cw ad cy) (cas ad) cy yX10_follow cX10_follow 3 none 3 67 [.ref (ad 16), .ref (ad 1)] σ (none) σ' := by
  refine Ctr.of (cw_as ad cy) rfl (Nat.le_of_ble_eq_true rfl) (fun p e s m args below meth c ls E hr hlk hl hG => ?_)
  have hl : lv_has ls 3 [(0, .ref (ad 16)), (1, .ref (ad 1))] := hl
  unfold f_c_X10_follow at hf
  refine lv_aload_n E.1 E.2.1 dX10_follow_0 rfl (lv_at hl 0 rfl) ?_
  refine fg_c_X10_21_16 E hG dX10_follow_1 ?_
  refine lv_aload_n E.1 E.2.1 dX10_follow_4 rfl (lv_at hl 1 rfl) ?_
  refine fg_c_X10_25_1 E hG dX10_follow_5 ?_
  refine lv_icmp_ne (tgt := 12) E.1 E.2.1 dX10_follow_8 (by decide) (fun hc => ?_) (fun hc => ?_)
  · replace hf := (if_neg hc).symm.trans hf
    refine lv_aload_n E.1 E.2.1 dX10_follow_12 rfl (lv_at hl 0 rfl) ?_
    refine lv_aload_n E.1 E.2.1 dX10_follow_13 rfl (lv_at hl 1 rfl) ?_
    refine fg_c_X10_25_1 E hG dX10_follow_14 ?_
    refine fp_c_X10_21_16 E hG dX10_follow_17 (fun H locs hG => ?_)
    refine lv_aload_n E.1 E.2.1 dX10_follow_20 rfl (lv_at hl 0 rfl) ?_
    refine lv_aload_n E.1 E.2.1 dX10_follow_21 rfl (lv_at hl 1 rfl) ?_
    obtain ⟨r22, σ22, hcl, hf⟩ := bd_some hf
    refine cl_V (rest := []) (st1 := []) (As := [.ref (ad 1)]) E hG (c_c_X10_plantTrees hcl) Wd_511 mi_X10_plantTrees ⟨Nat.le_of_ble_eq_true rfl, Nat.le_of_ble_eq_true rfl, Nat.zero_le _, Nat.zero_le _⟩ 11 16 rfl rfl rfl hl.1 rfl (Nat.le_of_ble_eq_true rfl) dX10_follow_22 rfl (fun H locs hG => ?_)
    refine lv_aload_n E.1 E.2.1 dX10_follow_25 rfl (lv_at hl 0 rfl) ?_
    refine fg_c_X10_34_16 E hG dX10_follow_26 ?_
    refine lv_iconst (v := (1 : Int32)) E.1 E.2.1 dX10_follow_29 (by decide) ?_
    refine lv_icmp_ne (tgt := 38) E.1 E.2.1 dX10_follow_30 (by decide) (fun hc => ?_) (fun hc => ?_)
    · replace hf := (if_neg hc).symm.trans hf
      exact k_c_X10_follow_38 E hr hlk _ hf _ _ _ hG (lv_sub hl [0] rfl)
    · replace hf := (if_pos hc).symm.trans hf
      refine lv_aload_n E.1 E.2.1 dX10_follow_33 rfl (lv_at hl 0 rfl) ?_
      refine lv_iconst (v := (0 : Int32)) E.1 E.2.1 dX10_follow_34 (by decide) ?_
      obtain ⟨r35, σ35, hcl, hf⟩ := bd_some hf
      refine cl_V (rest := []) (st1 := []) (As := [.int (0 : Int32)]) E hG (c_c_X10_widenTree hcl) Wd_515 mi_X10_widenTree ⟨Nat.le_of_ble_eq_true rfl, Nat.le_of_ble_eq_true rfl, Nat.zero_le _, Nat.zero_le _⟩ 11 16 rfl rfl rfl hl.1 rfl (Nat.le_of_ble_eq_true rfl) dX10_follow_35 rfl (fun H locs hG => ?_)
      exact k_c_X10_follow_38 E hr hlk _ hf _ _ _ hG (lv_sub hl [0] rfl)
  · replace hf := (if_pos hc).symm.trans hf
    exact r_v E hr hlk hG hf dX10_follow_11

set_option maxHeartbeats 4000000 in
set_option maxRecDepth 100000 in
theorem k_c_X10_stepWidth_2 {p : Program} {l : Launch} {e : Env} {s : State} {m : MethodId} {args : Array Value} {below : List Frame} {meth : Method} {c : Code} {D : va_G} {ad : Nat → Nat} {cy : ClassId} {r : Int32} {σ' : SS} (E : CallFix p m c cX10_stepWidth 3 s args TT yX10_stepWidth.cls) (hr : meth.sig.returnType = (some FieldType.int)) (hlk : meth.locks = false) (g2 : SS → Int32 → Int32 → Int32 → Option (Int32 × SS)) (hg2 : ∀ (σ : SS) (x0 : Int32) (x1 : Int32) (x2 : Int32), g2 σ x0 x1 x2 = some (r, σ') → At p l e 0 0 s m args below meth c D (cw ad cy) (cas ad) cy (some (.int r)) σ' 3 2 [(0, .int x0), (1, .int x1), (2, .int x2)] [] σ) : ∀ (σ : SS) (x0 : Int32) (x1 : Int32) (x2 : Int32), f_c_X10_stepWidth_2 g2 σ x0 x1 x2 = some (r, σ') → At p l e 0 0 s m args below meth c D (cw ad cy) (cas ad) cy (some (.int r)) σ' 3 2 [(0, .int x0), (1, .int x1), (2, .int x2)] [] σ := by
  intro σ x0 x1 x2 hf H locs ls hG hl
  unfold f_c_X10_stepWidth_2 at hf
  refine lv_iload_n E.1 E.2.1 dX10_stepWidth_2 rfl (lv_at hl 0 rfl) ?_
  refine lv_if_le (tgt := 25) E.1 E.2.1 dX10_stepWidth_3 (by decide) (fun hc => ?_) (fun hc => ?_)
  · replace hf := (if_pos hc).symm.trans hf
    refine lv_iload_n E.1 E.2.1 dX10_stepWidth_25 rfl (lv_at hl 2 rfl) ?_
    exact r_i E hr hlk hG hf dX10_stepWidth_26
  · replace hf := (if_neg hc).symm.trans hf
    refine lv_iload_n E.1 E.2.1 dX10_stepWidth_6 rfl (lv_at hl 2 rfl) ?_
    refine lv_bipush (v := (10 : Int32)) E.1 E.2.1 dX10_stepWidth_7 (by decide) ?_
    refine lv_icmp_ge (tgt := 25) E.1 E.2.1 dX10_stepWidth_9 (by decide) (fun hc => ?_) (fun hc => ?_)
    · replace hf := (if_pos hc).symm.trans hf
      refine lv_iload_n E.1 E.2.1 dX10_stepWidth_25 rfl (lv_at hl 2 rfl) ?_
      exact r_i E hr hlk hG hf dX10_stepWidth_26
    · replace hf := (if_neg hc).symm.trans hf
      refine lv_iload_n E.1 E.2.1 dX10_stepWidth_12 rfl (lv_at hl 0 rfl) ?_
      refine lv_iload_n E.1 E.2.1 dX10_stepWidth_13 rfl (lv_at hl 2 rfl) ?_
      refine lv_ishl E.1 E.2.1 dX10_stepWidth_14 ?_
      refine lv_iload_n E.1 E.2.1 dX10_stepWidth_15 rfl (lv_at hl 1 rfl) ?_
      refine lv_icmp_ge (tgt := 25) E.1 E.2.1 dX10_stepWidth_16 (by decide) (fun hc => ?_) (fun hc => ?_)
      · replace hf := (if_pos hc).symm.trans hf
        refine lv_iload_n E.1 E.2.1 dX10_stepWidth_25 rfl (lv_at hl 2 rfl) ?_
        exact r_i E hr hlk hG hf dX10_stepWidth_26
      · replace hf := (if_neg hc).symm.trans hf
        refine lv_iinc (v := (x2 + (1 : Int32))) (lv' := [(2, .int (x2 + (1 : Int32))), (0, .int x0), (1, .int x1)]) E.1 E.2.1 dX10_stepWidth_19 hl (k := 2) rfl rfl (by decide) rfl (fun ls hl => ?_)
        refine lv_goto (tgt := 2) E.1 E.2.1 dX10_stepWidth_22 (by decide) ?_
        exact hg2 _ _ _ _ hf _ _ _ hG (lv_sub hl [1, 2, 0] rfl)

set_option maxHeartbeats 4000000 in
set_option maxRecDepth 100000 in
theorem c_c_X10_stepWidth {l : Launch} {D : va_G} {ad : Nat → Nat} {cy : ClassId} {σ : SS} {x0 : Int32} {x1 : Int32} {r : Int32} {σ' : SS} (hf : f_c_X10_stepWidth σ x0 x1 = some (r, σ')) : Ctr l D (cw ad cy) (cas ad) cy yX10_stepWidth cX10_stepWidth 3 (some FieldType.int) 0 0 [.int x0, .int x1] σ (some (.int r)) σ' := by
  refine Ctr.of (cw_as ad cy) rfl (Nat.le_of_ble_eq_true rfl) (fun p e s m args below meth c ls E hr hlk hl hG => ?_)
  have hl : lv_has ls 3 [(0, .int x0), (1, .int x1)] := hl
  unfold f_c_X10_stepWidth at hf
  refine lv_iconst (v := (0 : Int32)) E.1 E.2.1 dX10_stepWidth_0 (by decide) ?_
  refine lv_istore_n (lv' := [(2, .int (0 : Int32)), (0, .int x0), (1, .int x1)]) E.1 E.2.1 dX10_stepWidth_1 rfl hl (by decide) rfl (fun ls hl => ?_)
  exact L3_at (P := fun σ x0 x1 x2 => At p l e 0 0 s m args below meth c D (cw ad cy) (cas ad) cy (some (.int r)) σ' 3 2 [(0, .int x0), (1, .int x1), (2, .int x2)] [] σ) (fun g hg => k_c_X10_stepWidth_2 E hr hlk g hg) FUEL _ _ _ _ hf _ _ _ hG (lv_sub hl [1, 2, 0] rfl)

set_option maxHeartbeats 4000000 in
set_option maxRecDepth 100000 in
theorem c_c_X11_widthOfKind {l : Launch} {D : va_G} {ad : Nat → Nat} {cy : ClassId} {σ : SS} {x1 : Int32} {x2 : Int32} {r : Int32} {σ' : SS} (hf : f_c_X11_widthOfKind σ x1 x2 = some (r, σ')) : Ctr l D (cw ad cy) (cas ad) cy yX11_widthOfKind cX11_widthOfKind 3 (some FieldType.int) 1 22 [.ref (ad 0), .int x1, .int x2] σ (some (.int r)) σ' := by
  refine Ctr.of (cw_as ad cy) rfl (Nat.le_of_ble_eq_true rfl) (fun p e s m args below meth c ls E hr hlk hl hG => ?_)
  have hl : lv_has ls 3 [(0, .ref (ad 0)), (1, .int x1), (2, .int x2)] := hl
  unfold f_c_X11_widthOfKind at hf
  refine lv_iload_n E.1 E.2.1 dX11_widthOfKind_0 rfl (lv_at hl 1 rfl) ?_
  refine lv_if_ne (tgt := 16) E.1 E.2.1 dX11_widthOfKind_1 (by decide) (fun hc => ?_) (fun hc => ?_)
  · replace hf := (if_neg hc).symm.trans hf
    refine lv_aload_n E.1 E.2.1 dX11_widthOfKind_16 rfl (lv_at hl 0 rfl) ?_
    refine fg_c_X11_10_0 E hG dX11_widthOfKind_17 ?_
    refine fg_c_X11_166_1 E hG dX11_widthOfKind_20 ?_
    refine lv_iload_n E.1 E.2.1 dX11_widthOfKind_23 rfl (lv_at hl 2 rfl) ?_
    obtain ⟨hin, hf⟩ := gd_some hf
    refine al_c_3 E hG hin dX11_widthOfKind_24 ?_
    refine lv_aload_n E.1 E.2.1 dX11_widthOfKind_25 rfl (lv_at hl 0 rfl) ?_
    refine fg_c_X11_10_0 E hG dX11_widthOfKind_26 ?_
    refine fg_c_X11_69_1 E hG dX11_widthOfKind_29 ?_
    obtain ⟨r32, σ32, hcl, hf⟩ := bd_some hf
    refine cl_S (rest := []) (st1 := [.int r32]) (As := [.int (σ.2 1 (Int32.toNatClampNeg x2)), .int (σ.1 0)]) E hG (c_c_X10_stepWidth hcl) Wd_531 mi_X10_stepWidth ⟨Nat.le_of_ble_eq_true rfl, Nat.le_of_ble_eq_true rfl, Nat.zero_le _, Nat.zero_le _⟩ rfl hl.1 rfl (Nat.le_of_ble_eq_true rfl) dX11_widthOfKind_32 rfl (fun H locs hG => ?_)
    exact r_i E hr hlk hG hf dX11_widthOfKind_35
  · replace hf := (if_pos hc).symm.trans hf
    refine lv_aload_n E.1 E.2.1 dX11_widthOfKind_4 rfl (lv_at hl 0 rfl) ?_
    refine fg_c_X11_40_0 E hG dX11_widthOfKind_5 ?_
    refine fg_c_X11_215_16 E hG dX11_widthOfKind_8 ?_
    refine lv_iload_n E.1 E.2.1 dX11_widthOfKind_11 rfl (lv_at hl 2 rfl) ?_
    obtain ⟨hin, hf⟩ := gd_some hf
    refine al_c_17 E hG hin dX11_widthOfKind_12 ?_
    refine lv_goto (tgt := 35) E.1 E.2.1 dX11_widthOfKind_13 (by decide) ?_
    exact r_i E hr hlk hG hf dX11_widthOfKind_35

set_option maxHeartbeats 4000000 in
set_option maxRecDepth 100000 in
theorem c_c_X11_width {l : Launch} {D : va_G} {ad : Nat → Nat} {cy : ClassId} {σ : SS} {x1 : Int32} {x2 : Int32} {r : Int32} {σ' : SS} (hf : f_c_X11_width σ x1 x2 = some (r, σ')) : Ctr l D (cw ad cy) (cas ad) cy yX11_width cX11_width 3 (some FieldType.int) 4 89 [.ref (ad 0), .int x1, .int x2] σ (some (.int r)) σ' := by
  refine Ctr.of (cw_as ad cy) rfl (Nat.le_of_ble_eq_true rfl) (fun p e s m args below meth c ls E hr hlk hl hG => ?_)
  have hl : lv_has ls 3 [(0, .ref (ad 0)), (1, .int x1), (2, .int x2)] := hl
  unfold f_c_X11_width at hf
  refine lv_iload_n E.1 E.2.1 dX11_width_0 rfl (lv_at hl 1 rfl) ?_
  refine lv_iconst (v := (0 : Int32)) E.1 E.2.1 dX11_width_1 (by decide) ?_
  refine lv_iconst (v := (1 : Int32)) E.1 E.2.1 dX11_width_2 (by decide) ?_
  obtain ⟨r3, σ3, hcl, hf⟩ := bd_some hf
  refine cl_S (rest := []) (st1 := [.int r3]) (As := [.int x1, .int (0 : Int32), .int (1 : Int32)]) E hG (c_c_X11_within hcl) Wd_365 mi_X11_within ⟨Nat.le_of_ble_eq_true rfl, Nat.le_of_ble_eq_true rfl, Nat.zero_le _, Nat.zero_le _⟩ rfl hl.1 rfl (Nat.le_of_ble_eq_true rfl) dX11_width_3 rfl (fun H locs hG => ?_)
  refine lv_if_eq (tgt := 16) E.1 E.2.1 dX11_width_6 (by decide) (fun hc => ?_) (fun hc => ?_)
  · replace hf := (if_pos hc).symm.trans hf
    refine lv_iconst (v := (-1 : Int32)) E.1 E.2.1 dX11_width_16 (by decide) ?_
    exact r_i E hr hlk hG hf dX11_width_17
  · replace hf := (if_neg hc).symm.trans hf
    refine lv_iload_n E.1 E.2.1 dX11_width_9 rfl (lv_at hl 2 rfl) ?_
    obtain ⟨r10, σ10, hcl, hf⟩ := bd_some hf
    refine cl_S (rest := []) (st1 := [.int r10]) (As := [.int x2]) E hG (c_c_X11_isSign hcl) Wd_362 mi_X11_isSign ⟨Nat.le_of_ble_eq_true rfl, Nat.le_of_ble_eq_true rfl, Nat.zero_le _, Nat.zero_le _⟩ rfl hl.1 rfl (Nat.le_of_ble_eq_true rfl) dX11_width_10 rfl (fun H locs hG => ?_)
    refine lv_if_ne (tgt := 18) E.1 E.2.1 dX11_width_13 (by decide) (fun hc => ?_) (fun hc => ?_)
    · replace hf := (if_neg hc).symm.trans hf
      refine lv_aload_n E.1 E.2.1 dX11_width_18 rfl (lv_at hl 0 rfl) ?_
      refine fg_c_X11_40_0 E hG dX11_width_19 ?_
      refine lv_aload_n E.1 E.2.1 dX11_width_22 rfl (lv_at hl 0 rfl) ?_
      refine fg_c_X11_10_0 E hG dX11_width_23 ?_
      obtain ⟨r26, σ26, hcl, hf⟩ := bd_some hf
      refine cl_V (rest := []) (st1 := []) (As := [.ref (ad 1)]) E hG (c_c_X10_follow hcl) Wd_507 mi_X10_follow ⟨Nat.le_of_ble_eq_true rfl, Nat.le_of_ble_eq_true rfl, Nat.zero_le _, Nat.zero_le _⟩ 11 16 rfl rfl rfl hl.1 rfl (Nat.le_of_ble_eq_true rfl) dX11_width_26 rfl (fun H locs hG => ?_)
      refine lv_aload_n E.1 E.2.1 dX11_width_29 rfl (lv_at hl 0 rfl) ?_
      refine lv_iload_n E.1 E.2.1 dX11_width_30 rfl (lv_at hl 1 rfl) ?_
      refine lv_iload_n E.1 E.2.1 dX11_width_31 rfl (lv_at hl 2 rfl) ?_
      obtain ⟨r32, σ32, hcl, hf⟩ := bd_some hf
      refine cl_V (rest := []) (st1 := [.int r32]) (As := [.int x1, .int x2]) E hG (c_c_X11_widthOfKind hcl) Wd_527 mi_X11_widthOfKind ⟨Nat.le_of_ble_eq_true rfl, Nat.le_of_ble_eq_true rfl, Nat.zero_le _, Nat.zero_le _⟩ 12 0 rfl rfl rfl hl.1 rfl (Nat.le_of_ble_eq_true rfl) dX11_width_32 rfl (fun H locs hG => ?_)
      exact r_i E hr hlk hG hf dX11_width_35
    · replace hf := (if_pos hc).symm.trans hf
      refine lv_iconst (v := (-1 : Int32)) E.1 E.2.1 dX11_width_16 (by decide) ?_
      exact r_i E hr hlk hG hf dX11_width_17

set_option maxHeartbeats 4000000 in
set_option maxRecDepth 100000 in
theorem k_c_X11_bits_26 {p : Program} {l : Launch} {e : Env} {s : State} {m : MethodId} {args : Array Value} {below : List Frame} {meth : Method} {c : Code} {D : va_G} {ad : Nat → Nat} {cy : ClassId} {r : Int32} {σ' : SS} (E : CallFix p m c cX11_bits 4 s args TT yX11_bits.cls) (hr : meth.sig.returnType = (some FieldType.int)) (hlk : meth.locks = false) (g26 : SS → Int32 → Int32 → Int32 → Option (Int32 × SS)) (hg26 : ∀ (σ : SS) (x1 : Int32) (x2 : Int32) (x3 : Int32), g26 σ x1 x2 x3 = some (r, σ') → At p l e 4 89 s m args below meth c D (cw ad cy) (cas ad) cy (some (.int r)) σ' 4 26 [(0, .ref (ad 0)), (1, .int x1), (2, .int x2), (3, .int x3)] [] σ) : ∀ (σ : SS) (x1 : Int32) (x2 : Int32) (x3 : Int32), f_c_X11_bits_26 g26 σ x1 x2 x3 = some (r, σ') → At p l e 4 89 s m args below meth c D (cw ad cy) (cas ad) cy (some (.int r)) σ' 4 26 [(0, .ref (ad 0)), (1, .int x1), (2, .int x2), (3, .int x3)] [] σ := by
  intro σ x1 x2 x3 hf H locs ls hG hl
  unfold f_c_X11_bits_26 at hf
  refine lv_iload_n E.1 E.2.1 dX11_bits_26 rfl (lv_at hl 3 rfl) ?_
  refine lv_bipush (v := (16 : Int32)) E.1 E.2.1 dX11_bits_27 (by decide) ?_
  refine lv_icmp_ge (tgt := 57) E.1 E.2.1 dX11_bits_29 (by decide) (fun hc => ?_) (fun hc => ?_)
  · replace hf := (if_pos hc).symm.trans hf
    refine lv_iload_n E.1 E.2.1 dX11_bits_57 rfl (lv_at hl 2 rfl) ?_
    exact r_i E hr hlk hG hf dX11_bits_58
  · replace hf := (if_neg hc).symm.trans hf
    refine lv_iload_n E.1 E.2.1 dX11_bits_32 rfl (lv_at hl 2 rfl) ?_
    refine lv_aload_n E.1 E.2.1 dX11_bits_33 rfl (lv_at hl 0 rfl) ?_
    refine fg_c_X11_10_0 E hG dX11_bits_34 ?_
    refine fg_c_X11_166_1 E hG dX11_bits_37 ?_
    refine lv_iload_n E.1 E.2.1 dX11_bits_40 rfl (lv_at hl 3 rfl) ?_
    obtain ⟨hin, hf⟩ := gd_some hf
    refine al_c_3 E hG hin dX11_bits_41 ?_
    refine lv_aload_n E.1 E.2.1 dX11_bits_42 rfl (lv_at hl 0 rfl) ?_
    refine lv_iload_n E.1 E.2.1 dX11_bits_43 rfl (lv_at hl 1 rfl) ?_
    refine lv_iload_n E.1 E.2.1 dX11_bits_44 rfl (lv_at hl 3 rfl) ?_
    obtain ⟨r45, σ45, hcl, hf⟩ := bd_some hf
    refine cl_V (rest := [.int (σ.2 1 (Int32.toNatClampNeg x3)), .int x2]) (st1 := [.int r45, .int (σ.2 1 (Int32.toNatClampNeg x3)), .int x2]) (As := [.int x1, .int x3]) E hG (c_c_X11_widthOfKind hcl) Wd_527 mi_X11_widthOfKind ⟨Nat.le_of_ble_eq_true rfl, Nat.le_of_ble_eq_true rfl, Nat.zero_le _, Nat.zero_le _⟩ 12 0 rfl rfl rfl hl.1 rfl (Nat.le_of_ble_eq_true rfl) dX11_bits_45 rfl (fun H locs hG => ?_)
    refine lv_imul E.1 E.2.1 dX11_bits_48 ?_
    refine lv_iadd E.1 E.2.1 dX11_bits_49 ?_
    refine lv_istore_n (lv' := [(2, .int (x2 + ((σ.2 1 (Int32.toNatClampNeg x3)) * r45))), (0, .ref (ad 0)), (1, .int x1), (3, .int x3)]) E.1 E.2.1 dX11_bits_50 rfl hl (by decide) rfl (fun ls hl => ?_)
    refine lv_iinc (v := (x3 + (1 : Int32))) (lv' := [(3, .int (x3 + (1 : Int32))), (2, .int (x2 + ((σ.2 1 (Int32.toNatClampNeg x3)) * r45))), (0, .ref (ad 0)), (1, .int x1)]) E.1 E.2.1 dX11_bits_51 hl (k := 3) rfl rfl (by decide) rfl (fun ls hl => ?_)
    refine lv_goto (tgt := 26) E.1 E.2.1 dX11_bits_54 (by decide) ?_
    exact hg26 _ _ _ _ hf _ _ _ hG (lv_sub hl [2, 3, 1, 0] rfl)

set_option maxHeartbeats 4000000 in
set_option maxRecDepth 100000 in
theorem c_c_X11_bits {l : Launch} {D : va_G} {ad : Nat → Nat} {cy : ClassId} {σ : SS} {x1 : Int32} {r : Int32} {σ' : SS} (hf : f_c_X11_bits σ x1 = some (r, σ')) : Ctr l D (cw ad cy) (cas ad) cy yX11_bits cX11_bits 4 (some FieldType.int) 4 89 [.ref (ad 0), .int x1] σ (some (.int r)) σ' := by
  refine Ctr.of (cw_as ad cy) rfl (Nat.le_of_ble_eq_true rfl) (fun p e s m args below meth c ls E hr hlk hl hG => ?_)
  have hl : lv_has ls 4 [(0, .ref (ad 0)), (1, .int x1)] := hl
  unfold f_c_X11_bits at hf
  refine lv_iload_n E.1 E.2.1 dX11_bits_0 rfl (lv_at hl 1 rfl) ?_
  refine lv_iconst (v := (0 : Int32)) E.1 E.2.1 dX11_bits_1 (by decide) ?_
  refine lv_iconst (v := (1 : Int32)) E.1 E.2.1 dX11_bits_2 (by decide) ?_
  obtain ⟨r3, σ3, hcl, hf⟩ := bd_some hf
  refine cl_S (rest := []) (st1 := [.int r3]) (As := [.int x1, .int (0 : Int32), .int (1 : Int32)]) E hG (c_c_X11_within hcl) Wd_365 mi_X11_within ⟨Nat.le_of_ble_eq_true rfl, Nat.le_of_ble_eq_true rfl, Nat.zero_le _, Nat.zero_le _⟩ rfl hl.1 rfl (Nat.le_of_ble_eq_true rfl) dX11_bits_3 rfl (fun H locs hG => ?_)
  refine lv_if_ne (tgt := 11) E.1 E.2.1 dX11_bits_6 (by decide) (fun hc => ?_) (fun hc => ?_)
  · replace hf := (if_neg hc).symm.trans hf
    refine lv_aload_n E.1 E.2.1 dX11_bits_11 rfl (lv_at hl 0 rfl) ?_
    refine fg_c_X11_40_0 E hG dX11_bits_12 ?_
    refine lv_aload_n E.1 E.2.1 dX11_bits_15 rfl (lv_at hl 0 rfl) ?_
    refine fg_c_X11_10_0 E hG dX11_bits_16 ?_
    obtain ⟨r19, σ19, hcl, hf⟩ := bd_some hf
    refine cl_V (rest := []) (st1 := []) (As := [.ref (ad 1)]) E hG (c_c_X10_follow hcl) Wd_507 mi_X10_follow ⟨Nat.le_of_ble_eq_true rfl, Nat.le_of_ble_eq_true rfl, Nat.zero_le _, Nat.zero_le _⟩ 11 16 rfl rfl rfl hl.1 rfl (Nat.le_of_ble_eq_true rfl) dX11_bits_19 rfl (fun H locs hG => ?_)
    refine lv_iconst (v := (0 : Int32)) E.1 E.2.1 dX11_bits_22 (by decide) ?_
    refine lv_istore_n (lv' := [(2, .int (0 : Int32)), (0, .ref (ad 0)), (1, .int x1)]) E.1 E.2.1 dX11_bits_23 rfl hl (by decide) rfl (fun ls hl => ?_)
    refine lv_iconst (v := (0 : Int32)) E.1 E.2.1 dX11_bits_24 (by decide) ?_
    refine lv_istore_n (lv' := [(3, .int (0 : Int32)), (2, .int (0 : Int32)), (0, .ref (ad 0)), (1, .int x1)]) E.1 E.2.1 dX11_bits_25 rfl hl (by decide) rfl (fun ls hl => ?_)
    exact L3_at (P := fun σ x1 x2 x3 => At p l e 4 89 s m args below meth c D (cw ad cy) (cas ad) cy (some (.int r)) σ' 4 26 [(0, .ref (ad 0)), (1, .int x1), (2, .int x2), (3, .int x3)] [] σ) (fun g hg => k_c_X11_bits_26 E hr hlk g hg) FUEL _ _ _ _ hf _ _ _ hG (lv_sub hl [2, 3, 1, 0] rfl)
  · replace hf := (if_pos hc).symm.trans hf
    refine lv_iconst (v := (-1 : Int32)) E.1 E.2.1 dX11_bits_9 (by decide) ?_
    exact r_i E hr hlk hG hf dX11_bits_10

set_option maxHeartbeats 4000000 in
set_option maxRecDepth 100000 in
theorem c_c_X7_add_24 {l : Launch} {D : va_G} {ad : Nat → Nat} {cy : ClassId} {σ : SS} {x1 : Int32} {x2 : Int32} {x3 : Int32} {r : Unit} {σ' : SS} (hf : f_c_X7_add_24 σ x1 x2 x3 = some (r, σ')) : Ctr l D (cw ad cy) (cas ad) cy yX7_add cX7_add 4 none 0 0 [.ref (ad 24), .int x1, .int x2, .int x3] σ (none) σ' := by
  refine Ctr.of (cw_as ad cy) rfl (Nat.le_of_ble_eq_true rfl) (fun p e s m args below meth c ls E hr hlk hl hG => ?_)
  have hl : lv_has ls 4 [(0, .ref (ad 24)), (1, .int x1), (2, .int x2), (3, .int x3)] := hl
  unfold f_c_X7_add_24 at hf
  refine lv_aload_n E.1 E.2.1 dX7_add_0 rfl (lv_at hl 0 rfl) ?_
  refine fg_c_X7_9_24 E hG dX7_add_1 ?_
  refine lv_aload_n E.1 E.2.1 dX7_add_4 rfl (lv_at hl 0 rfl) ?_
  refine fg_c_X7_30_24 E hG dX7_add_5 ?_
  refine lv_iload_n E.1 E.2.1 dX7_add_8 rfl (lv_at hl 1 rfl) ?_
  obtain ⟨hin, hf⟩ := gd_some hf
  refine as_c_25 E hG hin dX7_add_9 (fun H locs hG => ?_)
  refine lv_aload_n E.1 E.2.1 dX7_add_10 rfl (lv_at hl 0 rfl) ?_
  refine fg_c_X7_15_24 E hG dX7_add_11 ?_
  refine lv_aload_n E.1 E.2.1 dX7_add_14 rfl (lv_at hl 0 rfl) ?_
  refine fg_c_X7_30_24 E hG dX7_add_15 ?_
  refine lv_iload_n E.1 E.2.1 dX7_add_18 rfl (lv_at hl 2 rfl) ?_
  obtain ⟨hin, hf⟩ := gd_some hf
  refine as_c_26 E hG hin dX7_add_19 (fun H locs hG => ?_)
  refine lv_aload_n E.1 E.2.1 dX7_add_20 rfl (lv_at hl 0 rfl) ?_
  refine fg_c_X7_18_24 E hG dX7_add_21 ?_
  refine lv_aload_n E.1 E.2.1 dX7_add_24 rfl (lv_at hl 0 rfl) ?_
  refine fg_c_X7_30_24 E hG dX7_add_25 ?_
  refine lv_iload_n E.1 E.2.1 dX7_add_28 rfl (lv_at hl 3 rfl) ?_
  obtain ⟨hin, hf⟩ := gd_some hf
  refine as_c_27 E hG hin dX7_add_29 (fun H locs hG => ?_)
  refine lv_aload_n E.1 E.2.1 dX7_add_30 rfl (lv_at hl 0 rfl) ?_
  refine lv_dup E.1 E.2.1 dX7_add_31 rfl ?_
  refine fg_c_X7_30_24 E hG dX7_add_32 ?_
  refine lv_iconst (v := (1 : Int32)) E.1 E.2.1 dX7_add_35 (by decide) ?_
  refine lv_iadd E.1 E.2.1 dX7_add_36 ?_
  refine fp_c_X7_30_24 E hG dX7_add_37 (fun H locs hG => ?_)
  exact r_v E hr hlk hG hf dX7_add_40

set_option maxHeartbeats 4000000 in
set_option maxRecDepth 100000 in
theorem k_c_X6_findPhrase_3 {p : Program} {l : Launch} {e : Env} {s : State} {m : MethodId} {args : Array Value} {below : List Frame} {meth : Method} {c : Code} {D : va_G} {ad : Nat → Nat} {cy : ClassId} {r : Int32} {σ' : SS} (E : CallFix p m c cX6_findPhrase 6 s args TT yX6_findPhrase.cls) (hr : meth.sig.returnType = (some FieldType.int)) (hlk : meth.locks = false) (g3 : SS → Int32 → Int32 → Int32 → Option (Int32 × SS)) (hg3 : ∀ (σ : SS) (x2 : Int32) (x3 : Int32) (x4 : Int32), g3 σ x2 x3 x4 = some (r, σ') → At p l e 0 0 s m args below meth c D (cw ad cy) (cas ad) cy (some (.int r)) σ' 6 3 [(0, .ref (ad 24)), (1, .ref (ad 1)), (2, .int x2), (3, .int x3), (4, .int x4)] [] σ) : ∀ (σ : SS) (x2 : Int32) (x3 : Int32) (x4 : Int32), f_c_X6_findPhrase_3 g3 σ x2 x3 x4 = some (r, σ') → At p l e 0 0 s m args below meth c D (cw ad cy) (cas ad) cy (some (.int r)) σ' 6 3 [(0, .ref (ad 24)), (1, .ref (ad 1)), (2, .int x2), (3, .int x3), (4, .int x4)] [] σ := by
  intro σ x2 x3 x4 hf H locs ls hG hl
  unfold f_c_X6_findPhrase_3 at hf
  refine lv_iload E.1 E.2.1 dX6_findPhrase_3 (lv_at hl 4 rfl) ?_
  refine lv_aload_n E.1 E.2.1 dX6_findPhrase_5 rfl (lv_at hl 0 rfl) ?_
  refine fg_c_X6_29_24 E hG dX6_findPhrase_6 ?_
  refine lv_icmp_ge (tgt := 62) E.1 E.2.1 dX6_findPhrase_9 (by decide) (fun hc => ?_) (fun hc => ?_)
  · replace hf := (if_pos hc).symm.trans hf
    refine lv_bipush (v := (-2 : Int32)) E.1 E.2.1 dX6_findPhrase_62 (by decide) ?_
    exact r_i E hr hlk hG hf dX6_findPhrase_64
  · replace hf := (if_neg hc).symm.trans hf
    refine lv_aload_n E.1 E.2.1 dX6_findPhrase_12 rfl (lv_at hl 0 rfl) ?_
    refine fg_c_X6_32_24 E hG dX6_findPhrase_13 ?_
    refine lv_iload E.1 E.2.1 dX6_findPhrase_16 (lv_at hl 4 rfl) ?_
    obtain ⟨hin, hf⟩ := gd_some hf
    refine al_c_25 E hG hin dX6_findPhrase_18 ?_
    refine lv_aload_n E.1 E.2.1 dX6_findPhrase_19 rfl (lv_at hl 0 rfl) ?_
    refine fg_c_X6_35_24 E hG dX6_findPhrase_20 ?_
    refine lv_iload E.1 E.2.1 dX6_findPhrase_23 (lv_at hl 4 rfl) ?_
    obtain ⟨hin, hf⟩ := gd_some hf
    refine al_c_26 E hG hin dX6_findPhrase_25 ?_
    refine lv_iadd E.1 E.2.1 dX6_findPhrase_26 ?_
    refine lv_iconst (v := (1 : Int32)) E.1 E.2.1 dX6_findPhrase_27 (by decide) ?_
    refine lv_isub E.1 E.2.1 dX6_findPhrase_28 ?_
    refine lv_istore (lv' := [(5, .int (((σ.2 16 (Int32.toNatClampNeg x4)) + (σ.2 17 (Int32.toNatClampNeg x4))) - (1 : Int32))), (0, .ref (ad 24)), (1, .ref (ad 1)), (2, .int x2), (3, .int x3), (4, .int x4)]) E.1 E.2.1 dX6_findPhrase_29 hl (by decide) rfl (fun ls hl => ?_)
    refine lv_aload_n E.1 E.2.1 dX6_findPhrase_31 rfl (lv_at hl 1 rfl) ?_
    refine fg_c_X6_38_24 E hG dX6_findPhrase_32 ?_
    refine lv_iload E.1 E.2.1 dX6_findPhrase_35 (lv_at hl 5 rfl) ?_
    obtain ⟨hin, hf⟩ := gd_some hf
    refine al_c_27 E hG hin dX6_findPhrase_37 ?_
    refine lv_iload_n E.1 E.2.1 dX6_findPhrase_38 rfl (lv_at hl 3 rfl) ?_
    refine lv_icmp_ne (tgt := 56) E.1 E.2.1 dX6_findPhrase_39 (by decide) (fun hc => ?_) (fun hc => ?_)
    · replace hf := (if_neg hc).symm.trans hf
      refine lv_iinc (v := (x4 + (1 : Int32))) (lv' := [(4, .int (x4 + (1 : Int32))), (5, .int (((σ.2 16 (Int32.toNatClampNeg x4)) + (σ.2 17 (Int32.toNatClampNeg x4))) - (1 : Int32))), (0, .ref (ad 24)), (1, .ref (ad 1)), (2, .int x2), (3, .int x3)]) E.1 E.2.1 dX6_findPhrase_56 hl (k := 5) rfl rfl (by decide) rfl (fun ls hl => ?_)
      refine lv_goto (tgt := 3) E.1 E.2.1 dX6_findPhrase_59 (by decide) ?_
      exact hg3 _ _ _ _ hf _ _ _ hG (lv_sub hl [2, 3, 4, 5, 0] rfl)
    · replace hf := (if_pos hc).symm.trans hf
      refine lv_aload_n E.1 E.2.1 dX6_findPhrase_42 rfl (lv_at hl 2 rfl) ?_
      refine fg_c_X6_15_1 E hG dX6_findPhrase_43 ?_
      refine lv_iload E.1 E.2.1 dX6_findPhrase_46 (lv_at hl 0 rfl) ?_
      obtain ⟨hin, hf⟩ := gd_some hf
      refine al_c_2 E hG hin dX6_findPhrase_48 ?_
      refine lv_iload_n E.1 E.2.1 dX6_findPhrase_49 rfl (lv_at hl 4 rfl) ?_
      refine lv_icmp_ne (tgt := 56) E.1 E.2.1 dX6_findPhrase_50 (by decide) (fun hc => ?_) (fun hc => ?_)
      · replace hf := (if_neg hc).symm.trans hf
        refine lv_iinc (v := (x4 + (1 : Int32))) (lv' := [(4, .int (x4 + (1 : Int32))), (5, .int (((σ.2 16 (Int32.toNatClampNeg x4)) + (σ.2 17 (Int32.toNatClampNeg x4))) - (1 : Int32))), (0, .ref (ad 24)), (1, .ref (ad 1)), (2, .int x2), (3, .int x3)]) E.1 E.2.1 dX6_findPhrase_56 hl (k := 5) rfl rfl (by decide) rfl (fun ls hl => ?_)
        refine lv_goto (tgt := 3) E.1 E.2.1 dX6_findPhrase_59 (by decide) ?_
        exact hg3 _ _ _ _ hf _ _ _ hG (lv_sub hl [2, 3, 4, 5, 0] rfl)
      · replace hf := (if_pos hc).symm.trans hf
        refine lv_iload E.1 E.2.1 dX6_findPhrase_53 (lv_at hl 5 rfl) ?_
        exact r_i E hr hlk hG hf dX6_findPhrase_55

set_option maxHeartbeats 4000000 in
set_option maxRecDepth 100000 in
theorem c_c_X6_findPhrase {l : Launch} {D : va_G} {ad : Nat → Nat} {cy : ClassId} {σ : SS} {x2 : Int32} {x3 : Int32} {r : Int32} {σ' : SS} (hf : f_c_X6_findPhrase σ x2 x3 = some (r, σ')) : Ctr l D (cw ad cy) (cas ad) cy yX6_findPhrase cX6_findPhrase 6 (some FieldType.int) 0 0 [.ref (ad 24), .ref (ad 1), .int x2, .int x3] σ (some (.int r)) σ' := by
  refine Ctr.of (cw_as ad cy) rfl (Nat.le_of_ble_eq_true rfl) (fun p e s m args below meth c ls E hr hlk hl hG => ?_)
  have hl : lv_has ls 6 [(0, .ref (ad 24)), (1, .ref (ad 1)), (2, .int x2), (3, .int x3)] := hl
  unfold f_c_X6_findPhrase at hf
  refine lv_iconst (v := (0 : Int32)) E.1 E.2.1 dX6_findPhrase_0 (by decide) ?_
  refine lv_istore (lv' := [(4, .int (0 : Int32)), (0, .ref (ad 24)), (1, .ref (ad 1)), (2, .int x2), (3, .int x3)]) E.1 E.2.1 dX6_findPhrase_1 hl (by decide) rfl (fun ls hl => ?_)
  exact L3_at (P := fun σ x2 x3 x4 => At p l e 0 0 s m args below meth c D (cw ad cy) (cas ad) cy (some (.int r)) σ' 6 3 [(0, .ref (ad 24)), (1, .ref (ad 1)), (2, .int x2), (3, .int x3), (4, .int x4)] [] σ) (fun g hg => k_c_X6_findPhrase_3 E hr hlk g hg) FUEL _ _ _ _ hf _ _ _ hG (lv_sub hl [1, 2, 3, 4, 0] rfl)

set_option maxHeartbeats 4000000 in
set_option maxRecDepth 100000 in
theorem k_c_X6_cut_8 {p : Program} {l : Launch} {e : Env} {s : State} {m : MethodId} {args : Array Value} {below : List Frame} {meth : Method} {c : Code} {D : va_G} {ad : Nat → Nat} {cy : ClassId} {r : Unit} {σ' : SS} (E : CallFix p m c cX6_cut 6 s args TT yX6_cut.cls) (hr : meth.sig.returnType = none) (hlk : meth.locks = false) (g8 : SS → Int32 → Int32 → Int32 → Option (Unit × SS)) (hg8 : ∀ (σ : SS) (x2 : Int32) (x3 : Int32) (x4 : Int32), g8 σ x2 x3 x4 = some (r, σ') → At p l e 1 25 s m args below meth c D (cw ad cy) (cas ad) cy (none) σ' 6 8 [(0, .ref (ad 24)), (1, .ref (ad 1)), (2, .int x2), (3, .int x3), (4, .int x4)] [] σ) : ∀ (σ : SS) (x2 : Int32) (x3 : Int32) (x4 : Int32), f_c_X6_cut_8 g8 σ x2 x3 x4 = some (r, σ') → At p l e 1 25 s m args below meth c D (cw ad cy) (cas ad) cy (none) σ' 6 8 [(0, .ref (ad 24)), (1, .ref (ad 1)), (2, .int x2), (3, .int x3), (4, .int x4)] [] σ := by
  intro σ x2 x3 x4 hf H locs ls hG hl
  unfold f_c_X6_cut_8 at hf
  refine lv_iload E.1 E.2.1 dX6_cut_8 (lv_at hl 4 rfl) ?_
  refine lv_aload_n E.1 E.2.1 dX6_cut_10 rfl (lv_at hl 1 rfl) ?_
  refine fg_c_X6_9_1 E hG dX6_cut_11 ?_
  refine lv_icmp_ge (tgt := 65) E.1 E.2.1 dX6_cut_14 (by decide) (fun hc => ?_) (fun hc => ?_)
  · replace hf := (if_pos hc).symm.trans hf
    refine lv_iload_n E.1 E.2.1 dX6_cut_65 rfl (lv_at hl 2 rfl) ?_
    refine lv_aload_n E.1 E.2.1 dX6_cut_66 rfl (lv_at hl 1 rfl) ?_
    refine fg_c_X6_9_1 E hG dX6_cut_67 ?_
    refine lv_icmp_ge (tgt := 85) E.1 E.2.1 dX6_cut_70 (by decide) (fun hc => ?_) (fun hc => ?_)
    · replace hf := (if_pos hc).symm.trans hf
      exact r_v E hr hlk hG hf dX6_cut_85
    · replace hf := (if_neg hc).symm.trans hf
      refine lv_aload_n E.1 E.2.1 dX6_cut_73 rfl (lv_at hl 0 rfl) ?_
      refine lv_iload_n E.1 E.2.1 dX6_cut_74 rfl (lv_at hl 2 rfl) ?_
      refine lv_aload_n E.1 E.2.1 dX6_cut_75 rfl (lv_at hl 1 rfl) ?_
      refine fg_c_X6_9_1 E hG dX6_cut_76 ?_
      refine lv_iload_n E.1 E.2.1 dX6_cut_79 rfl (lv_at hl 2 rfl) ?_
      refine lv_isub E.1 E.2.1 dX6_cut_80 ?_
      refine lv_iload_n E.1 E.2.1 dX6_cut_81 rfl (lv_at hl 3 rfl) ?_
      obtain ⟨r82, σ82, hcl, hf⟩ := bd_some hf
      refine cl_U (rest := []) (st1 := []) (As := [.int x2, .int ((σ.1 0) - x2), .int x3]) E hG (c_c_X7_add_24 hcl) Wd_581 mu_X6_X7_add_X6 (Or.inl rfl) ⟨Nat.le_of_ble_eq_true rfl, Nat.le_of_ble_eq_true rfl, Nat.zero_le _, Nat.zero_le _⟩ 8 24 rfl rfl rfl hl.1 rfl (Nat.le_of_ble_eq_true rfl) dX6_cut_82 rfl (fun H locs hG => ?_)
      exact r_v E hr hlk hG hf dX6_cut_85
  · replace hf := (if_neg hc).symm.trans hf
    refine lv_aload_n E.1 E.2.1 dX6_cut_17 rfl (lv_at hl 0 rfl) ?_
    refine lv_aload_n E.1 E.2.1 dX6_cut_18 rfl (lv_at hl 1 rfl) ?_
    refine lv_iload_n E.1 E.2.1 dX6_cut_19 rfl (lv_at hl 3 rfl) ?_
    refine lv_aload_n E.1 E.2.1 dX6_cut_20 rfl (lv_at hl 1 rfl) ?_
    refine fg_c_X6_15_1 E hG dX6_cut_21 ?_
    refine lv_iload E.1 E.2.1 dX6_cut_24 (lv_at hl 4 rfl) ?_
    obtain ⟨hin, hf⟩ := gd_some hf
    refine al_c_2 E hG hin dX6_cut_26 ?_
    obtain ⟨r27, σ27, hcl, hf⟩ := bd_some hf
    refine cl_V (rest := []) (st1 := [.int r27]) (As := [.ref (ad 1), .int x3, .int (σ.2 0 (Int32.toNatClampNeg x4))]) E hG (c_c_X6_findPhrase hcl) Wd_577 mi_X6_findPhrase ⟨Nat.le_of_ble_eq_true rfl, Nat.le_of_ble_eq_true rfl, Nat.zero_le _, Nat.zero_le _⟩ 8 24 rfl rfl rfl hl.1 rfl (Nat.le_of_ble_eq_true rfl) dX6_cut_27 rfl (fun H locs hG => ?_)
    refine lv_istore (lv' := [(5, .int r27), (0, .ref (ad 24)), (1, .ref (ad 1)), (2, .int x2), (3, .int x3), (4, .int x4)]) E.1 E.2.1 dX6_cut_30 hl (by decide) rfl (fun ls hl => ?_)
    refine lv_iload E.1 E.2.1 dX6_cut_32 (lv_at hl 0 rfl) ?_
    refine lv_bipush (v := (-2 : Int32)) E.1 E.2.1 dX6_cut_34 (by decide) ?_
    refine lv_icmp_ne (tgt := 56) E.1 E.2.1 dX6_cut_36 (by decide) (fun hc => ?_) (fun hc => ?_)
    · replace hf := (if_neg hc).symm.trans hf
      refine lv_iload E.1 E.2.1 dX6_cut_56 (lv_at hl 0 rfl) ?_
      refine lv_istore_n (lv' := [(3, .int r27), (5, .int r27), (0, .ref (ad 24)), (1, .ref (ad 1)), (2, .int x2), (4, .int x4)]) E.1 E.2.1 dX6_cut_58 rfl hl (by decide) rfl (fun ls hl => ?_)
      refine lv_iinc (v := (x4 + (1 : Int32))) (lv' := [(4, .int (x4 + (1 : Int32))), (3, .int r27), (5, .int r27), (0, .ref (ad 24)), (1, .ref (ad 1)), (2, .int x2)]) E.1 E.2.1 dX6_cut_59 hl (k := 5) rfl rfl (by decide) rfl (fun ls hl => ?_)
      refine lv_goto (tgt := 8) E.1 E.2.1 dX6_cut_62 (by decide) ?_
      exact hg8 _ _ _ _ hf _ _ _ hG (lv_sub hl [3, 4, 5, 1, 0] rfl)
    · replace hf := (if_pos hc).symm.trans hf
      refine lv_aload_n E.1 E.2.1 dX6_cut_39 rfl (lv_at hl 1 rfl) ?_
      refine lv_iload_n E.1 E.2.1 dX6_cut_40 rfl (lv_at hl 3 rfl) ?_
      refine lv_iload E.1 E.2.1 dX6_cut_41 (lv_at hl 5 rfl) ?_
      refine lv_iconst (v := (1 : Int32)) E.1 E.2.1 dX6_cut_43 (by decide) ?_
      refine lv_iadd E.1 E.2.1 dX6_cut_44 ?_
      refine lv_iload_n E.1 E.2.1 dX6_cut_45 rfl (lv_at hl 3 rfl) ?_
      refine lv_isub E.1 E.2.1 dX6_cut_46 ?_
      refine lv_iload_n E.1 E.2.1 dX6_cut_47 rfl (lv_at hl 4 rfl) ?_
      obtain ⟨r48, σ48, hcl, hf⟩ := bd_some hf
      refine cl_U (rest := []) (st1 := []) (As := [.int x2, .int ((x4 + (1 : Int32)) - x2), .int x3]) E hG (c_c_X7_add_24 hcl) Wd_581 mu_X6_X7_add_X6 (Or.inl rfl) ⟨Nat.le_of_ble_eq_true rfl, Nat.le_of_ble_eq_true rfl, Nat.zero_le _, Nat.zero_le _⟩ 8 24 rfl rfl rfl hl.1 rfl (Nat.le_of_ble_eq_true rfl) dX6_cut_48 rfl (fun H locs hG => ?_)
      refine lv_iload E.1 E.2.1 dX6_cut_51 (lv_at hl 5 rfl) ?_
      refine lv_iconst (v := (1 : Int32)) E.1 E.2.1 dX6_cut_53 (by decide) ?_
      refine lv_iadd E.1 E.2.1 dX6_cut_54 ?_
      refine lv_istore_n (lv' := [(2, .int (x4 + (1 : Int32))), (5, .int r27), (0, .ref (ad 24)), (1, .ref (ad 1)), (3, .int x3), (4, .int x4)]) E.1 E.2.1 dX6_cut_55 rfl hl (by decide) rfl (fun ls hl => ?_)
      refine lv_iload E.1 E.2.1 dX6_cut_56 (lv_at hl 1 rfl) ?_
      refine lv_istore_n (lv' := [(3, .int r27), (2, .int (x4 + (1 : Int32))), (5, .int r27), (0, .ref (ad 24)), (1, .ref (ad 1)), (4, .int x4)]) E.1 E.2.1 dX6_cut_58 rfl hl (by decide) rfl (fun ls hl => ?_)
      refine lv_iinc (v := (x4 + (1 : Int32))) (lv' := [(4, .int (x4 + (1 : Int32))), (3, .int r27), (2, .int (x4 + (1 : Int32))), (5, .int r27), (0, .ref (ad 24)), (1, .ref (ad 1))]) E.1 E.2.1 dX6_cut_59 hl (k := 5) rfl rfl (by decide) rfl (fun ls hl => ?_)
      refine lv_goto (tgt := 8) E.1 E.2.1 dX6_cut_62 (by decide) ?_
      exact hg8 _ _ _ _ hf _ _ _ hG (lv_sub hl [4, 5, 2, 1, 0] rfl)

set_option maxHeartbeats 4000000 in
set_option maxRecDepth 100000 in
theorem c_c_X6_cut {l : Launch} {D : va_G} {ad : Nat → Nat} {cy : ClassId} {σ : SS} {r : Unit} {σ' : SS} (hf : f_c_X6_cut σ = some (r, σ')) : Ctr l D (cw ad cy) (cas ad) cy yX6_cut cX6_cut 6 none 1 25 [.ref (ad 24), .ref (ad 1)] σ (none) σ' := by
  refine Ctr.of (cw_as ad cy) rfl (Nat.le_of_ble_eq_true rfl) (fun p e s m args below meth c ls E hr hlk hl hG => ?_)
  have hl : lv_has ls 6 [(0, .ref (ad 24)), (1, .ref (ad 1))] := hl
  unfold f_c_X6_cut at hf
  refine lv_iconst (v := (0 : Int32)) E.1 E.2.1 dX6_cut_0 (by decide) ?_
  refine lv_istore_n (lv' := [(2, .int (0 : Int32)), (0, .ref (ad 24)), (1, .ref (ad 1))]) E.1 E.2.1 dX6_cut_1 rfl hl (by decide) rfl (fun ls hl => ?_)
  refine lv_bipush (v := (-2 : Int32)) E.1 E.2.1 dX6_cut_2 (by decide) ?_
  refine lv_istore_n (lv' := [(3, .int (-2 : Int32)), (2, .int (0 : Int32)), (0, .ref (ad 24)), (1, .ref (ad 1))]) E.1 E.2.1 dX6_cut_4 rfl hl (by decide) rfl (fun ls hl => ?_)
  refine lv_iconst (v := (0 : Int32)) E.1 E.2.1 dX6_cut_5 (by decide) ?_
  refine lv_istore (lv' := [(4, .int (0 : Int32)), (3, .int (-2 : Int32)), (2, .int (0 : Int32)), (0, .ref (ad 24)), (1, .ref (ad 1))]) E.1 E.2.1 dX6_cut_6 hl (by decide) rfl (fun ls hl => ?_)
  exact L3_at (P := fun σ x2 x3 x4 => At p l e 1 25 s m args below meth c D (cw ad cy) (cas ad) cy (none) σ' 6 8 [(0, .ref (ad 24)), (1, .ref (ad 1)), (2, .int x2), (3, .int x3), (4, .int x4)] [] σ) (fun g hg => k_c_X6_cut_8 E hr hlk g hg) FUEL _ _ _ _ hf _ _ _ hG (lv_sub hl [3, 4, 2, 1, 0] rfl)

set_option maxHeartbeats 4000000 in
set_option maxRecDepth 100000 in
theorem c_c_X7_follow_24 {l : Launch} {D : va_G} {ad : Nat → Nat} {cy : ClassId} {σ : SS} {r : Unit} {σ' : SS} (hf : f_c_X7_follow_24 σ = some (r, σ')) : Ctr l D (cw ad cy) (cas ad) cy yX7_follow cX7_follow 2 none 2 50 [.ref (ad 24), .ref (ad 1)] σ (none) σ' := by
  refine Ctr.of (cw_as ad cy) rfl (Nat.le_of_ble_eq_true rfl) (fun p e s m args below meth c ls E hr hlk hl hG => ?_)
  have hl : lv_has ls 2 [(0, .ref (ad 24)), (1, .ref (ad 1))] := hl
  unfold f_c_X7_follow_24 at hf
  refine lv_aload_n E.1 E.2.1 dX7_follow_0 rfl (lv_at hl 0 rfl) ?_
  refine fg_c_X7_21_24 E hG dX7_follow_1 ?_
  refine lv_aload_n E.1 E.2.1 dX7_follow_4 rfl (lv_at hl 1 rfl) ?_
  refine fg_c_X7_25_1 E hG dX7_follow_5 ?_
  refine lv_icmp_ne (tgt := 12) E.1 E.2.1 dX7_follow_8 (by decide) (fun hc => ?_) (fun hc => ?_)
  · replace hf := (if_neg hc).symm.trans hf
    refine lv_aload_n E.1 E.2.1 dX7_follow_12 rfl (lv_at hl 0 rfl) ?_
    refine lv_aload_n E.1 E.2.1 dX7_follow_13 rfl (lv_at hl 1 rfl) ?_
    refine fg_c_X7_25_1 E hG dX7_follow_14 ?_
    refine fp_c_X7_21_24 E hG dX7_follow_17 (fun H locs hG => ?_)
    refine lv_aload_n E.1 E.2.1 dX7_follow_20 rfl (lv_at hl 0 rfl) ?_
    refine lv_iconst (v := (0 : Int32)) E.1 E.2.1 dX7_follow_21 (by decide) ?_
    refine fp_c_X7_30_24 E hG dX7_follow_22 (fun H locs hG => ?_)
    refine lv_aload_n E.1 E.2.1 dX7_follow_25 rfl (lv_at hl 0 rfl) ?_
    refine lv_aload_n E.1 E.2.1 dX7_follow_26 rfl (lv_at hl 1 rfl) ?_
    obtain ⟨r27, σ27, hcl, hf⟩ := bd_some hf
    refine cl_U (rest := []) (st1 := []) (As := [.ref (ad 1)]) E hG (c_c_X6_cut hcl) Wd_552 mu_X7_X6_cut_X6 (Or.inr rfl) ⟨Nat.le_of_ble_eq_true rfl, Nat.le_of_ble_eq_true rfl, Nat.zero_le _, Nat.zero_le _⟩ 8 24 rfl rfl rfl hl.1 rfl (Nat.le_of_ble_eq_true rfl) dX7_follow_27 rfl (fun H locs hG => ?_)
    exact r_v E hr hlk hG hf dX7_follow_30
  · replace hf := (if_pos hc).symm.trans hf
    exact r_v E hr hlk hG hf dX7_follow_11

set_option maxHeartbeats 4000000 in
set_option maxRecDepth 100000 in
theorem c_c_X7_add_20 {l : Launch} {D : va_G} {ad : Nat → Nat} {cy : ClassId} {σ : SS} {x1 : Int32} {x2 : Int32} {x3 : Int32} {r : Unit} {σ' : SS} (hf : f_c_X7_add_20 σ x1 x2 x3 = some (r, σ')) : Ctr l D (cw ad cy) (cas ad) cy yX7_add cX7_add 4 none 0 0 [.ref (ad 20), .int x1, .int x2, .int x3] σ (none) σ' := by
  refine Ctr.of (cw_as ad cy) rfl (Nat.le_of_ble_eq_true rfl) (fun p e s m args below meth c ls E hr hlk hl hG => ?_)
  have hl : lv_has ls 4 [(0, .ref (ad 20)), (1, .int x1), (2, .int x2), (3, .int x3)] := hl
  unfold f_c_X7_add_20 at hf
  refine lv_aload_n E.1 E.2.1 dX7_add_0 rfl (lv_at hl 0 rfl) ?_
  refine fg_c_X7_9_20 E hG dX7_add_1 ?_
  refine lv_aload_n E.1 E.2.1 dX7_add_4 rfl (lv_at hl 0 rfl) ?_
  refine fg_c_X7_30_20 E hG dX7_add_5 ?_
  refine lv_iload_n E.1 E.2.1 dX7_add_8 rfl (lv_at hl 1 rfl) ?_
  obtain ⟨hin, hf⟩ := gd_some hf
  refine as_c_21 E hG hin dX7_add_9 (fun H locs hG => ?_)
  refine lv_aload_n E.1 E.2.1 dX7_add_10 rfl (lv_at hl 0 rfl) ?_
  refine fg_c_X7_15_20 E hG dX7_add_11 ?_
  refine lv_aload_n E.1 E.2.1 dX7_add_14 rfl (lv_at hl 0 rfl) ?_
  refine fg_c_X7_30_20 E hG dX7_add_15 ?_
  refine lv_iload_n E.1 E.2.1 dX7_add_18 rfl (lv_at hl 2 rfl) ?_
  obtain ⟨hin, hf⟩ := gd_some hf
  refine as_c_22 E hG hin dX7_add_19 (fun H locs hG => ?_)
  refine lv_aload_n E.1 E.2.1 dX7_add_20 rfl (lv_at hl 0 rfl) ?_
  refine fg_c_X7_18_20 E hG dX7_add_21 ?_
  refine lv_aload_n E.1 E.2.1 dX7_add_24 rfl (lv_at hl 0 rfl) ?_
  refine fg_c_X7_30_20 E hG dX7_add_25 ?_
  refine lv_iload_n E.1 E.2.1 dX7_add_28 rfl (lv_at hl 3 rfl) ?_
  obtain ⟨hin, hf⟩ := gd_some hf
  refine as_c_23 E hG hin dX7_add_29 (fun H locs hG => ?_)
  refine lv_aload_n E.1 E.2.1 dX7_add_30 rfl (lv_at hl 0 rfl) ?_
  refine lv_dup E.1 E.2.1 dX7_add_31 rfl ?_
  refine fg_c_X7_30_20 E hG dX7_add_32 ?_
  refine lv_iconst (v := (1 : Int32)) E.1 E.2.1 dX7_add_35 (by decide) ?_
  refine lv_iadd E.1 E.2.1 dX7_add_36 ?_
  refine fp_c_X7_30_20 E hG dX7_add_37 (fun H locs hG => ?_)
  exact r_v E hr hlk hG hf dX7_add_40

set_option maxHeartbeats 4000000 in
set_option maxRecDepth 100000 in
theorem k_c_X2_commonRun_2 {p : Program} {l : Launch} {e : Env} {s : State} {m : MethodId} {args : Array Value} {below : List Frame} {meth : Method} {c : Code} {D : va_G} {ad : Nat → Nat} {cy : ClassId} {r : Int32} {σ' : SS} (E : CallFix p m c cX2_commonRun 4 s args TT yX2_commonRun.cls) (hr : meth.sig.returnType = (some FieldType.int)) (hlk : meth.locks = false) (g2 : SS → Int32 → Int32 → Int32 → Option (Int32 × SS)) (hg2 : ∀ (σ : SS) (x1 : Int32) (x2 : Int32) (x3 : Int32), g2 σ x1 x2 x3 = some (r, σ') → At p l e 0 0 s m args below meth c D (cw ad cy) (cas ad) cy (some (.int r)) σ' 4 2 [(0, .ref (ad 1)), (1, .int x1), (2, .int x2), (3, .int x3)] [] σ) : ∀ (σ : SS) (x1 : Int32) (x2 : Int32) (x3 : Int32), f_c_X2_commonRun_2 g2 σ x1 x2 x3 = some (r, σ') → At p l e 0 0 s m args below meth c D (cw ad cy) (cas ad) cy (some (.int r)) σ' 4 2 [(0, .ref (ad 1)), (1, .int x1), (2, .int x2), (3, .int x3)] [] σ := by
  intro σ x1 x2 x3 hf H locs ls hG hl
  unfold f_c_X2_commonRun_2 at hf
  refine lv_iload_n E.1 E.2.1 dX2_commonRun_2 rfl (lv_at hl 2 rfl) ?_
  refine lv_iload_n E.1 E.2.1 dX2_commonRun_3 rfl (lv_at hl 3 rfl) ?_
  refine lv_iadd E.1 E.2.1 dX2_commonRun_4 ?_
  refine lv_aload_n E.1 E.2.1 dX2_commonRun_5 rfl (lv_at hl 0 rfl) ?_
  refine fg_c_X2_9_1 E hG dX2_commonRun_6 ?_
  refine lv_icmp_ge (tgt := 37) E.1 E.2.1 dX2_commonRun_9 (by decide) (fun hc => ?_) (fun hc => ?_)
  · replace hf := (if_pos hc).symm.trans hf
    refine lv_iload_n E.1 E.2.1 dX2_commonRun_37 rfl (lv_at hl 3 rfl) ?_
    exact r_i E hr hlk hG hf dX2_commonRun_38
  · replace hf := (if_neg hc).symm.trans hf
    refine lv_aload_n E.1 E.2.1 dX2_commonRun_12 rfl (lv_at hl 0 rfl) ?_
    refine fg_c_X2_42_1 E hG dX2_commonRun_13 ?_
    refine lv_iload_n E.1 E.2.1 dX2_commonRun_16 rfl (lv_at hl 1 rfl) ?_
    refine lv_iload_n E.1 E.2.1 dX2_commonRun_17 rfl (lv_at hl 3 rfl) ?_
    refine lv_iadd E.1 E.2.1 dX2_commonRun_18 ?_
    obtain ⟨hin, hf⟩ := gd_some hf
    refine al_c_2 E hG hin dX2_commonRun_19 ?_
    refine lv_aload_n E.1 E.2.1 dX2_commonRun_20 rfl (lv_at hl 0 rfl) ?_
    refine fg_c_X2_42_1 E hG dX2_commonRun_21 ?_
    refine lv_iload_n E.1 E.2.1 dX2_commonRun_24 rfl (lv_at hl 2 rfl) ?_
    refine lv_iload_n E.1 E.2.1 dX2_commonRun_25 rfl (lv_at hl 3 rfl) ?_
    refine lv_iadd E.1 E.2.1 dX2_commonRun_26 ?_
    obtain ⟨hin, hf⟩ := gd_some hf
    refine al_c_2 E hG hin dX2_commonRun_27 ?_
    refine lv_icmp_ne (tgt := 37) E.1 E.2.1 dX2_commonRun_28 (by decide) (fun hc => ?_) (fun hc => ?_)
    · replace hf := (if_neg hc).symm.trans hf
      refine lv_iload_n E.1 E.2.1 dX2_commonRun_37 rfl (lv_at hl 3 rfl) ?_
      exact r_i E hr hlk hG hf dX2_commonRun_38
    · replace hf := (if_pos hc).symm.trans hf
      refine lv_iinc (v := (x3 + (1 : Int32))) (lv' := [(3, .int (x3 + (1 : Int32))), (0, .ref (ad 1)), (1, .int x1), (2, .int x2)]) E.1 E.2.1 dX2_commonRun_31 hl (k := 3) rfl rfl (by decide) rfl (fun ls hl => ?_)
      refine lv_goto (tgt := 2) E.1 E.2.1 dX2_commonRun_34 (by decide) ?_
      exact hg2 _ _ _ _ hf _ _ _ hG (lv_sub hl [1, 2, 3, 0] rfl)

set_option maxHeartbeats 4000000 in
set_option maxRecDepth 100000 in
theorem c_c_X2_commonRun {l : Launch} {D : va_G} {ad : Nat → Nat} {cy : ClassId} {σ : SS} {x1 : Int32} {x2 : Int32} {r : Int32} {σ' : SS} (hf : f_c_X2_commonRun σ x1 x2 = some (r, σ')) : Ctr l D (cw ad cy) (cas ad) cy yX2_commonRun cX2_commonRun 4 (some FieldType.int) 0 0 [.ref (ad 1), .int x1, .int x2] σ (some (.int r)) σ' := by
  refine Ctr.of (cw_as ad cy) rfl (Nat.le_of_ble_eq_true rfl) (fun p e s m args below meth c ls E hr hlk hl hG => ?_)
  have hl : lv_has ls 4 [(0, .ref (ad 1)), (1, .int x1), (2, .int x2)] := hl
  unfold f_c_X2_commonRun at hf
  refine lv_iconst (v := (0 : Int32)) E.1 E.2.1 dX2_commonRun_0 (by decide) ?_
  refine lv_istore_n (lv' := [(3, .int (0 : Int32)), (0, .ref (ad 1)), (1, .int x1), (2, .int x2)]) E.1 E.2.1 dX2_commonRun_1 rfl hl (by decide) rfl (fun ls hl => ?_)
  exact L3_at (P := fun σ x1 x2 x3 => At p l e 0 0 s m args below meth c D (cw ad cy) (cas ad) cy (some (.int r)) σ' 4 2 [(0, .ref (ad 1)), (1, .int x1), (2, .int x2), (3, .int x3)] [] σ) (fun g hg => k_c_X2_commonRun_2 E hr hlk g hg) FUEL _ _ _ _ hf _ _ _ hG (lv_sub hl [1, 2, 3, 0] rfl)

set_option maxHeartbeats 4000000 in
set_option maxRecDepth 100000 in
theorem k_c_X2_addFactor_9 {p : Program} {l : Launch} {e : Env} {s : State} {m : MethodId} {args : Array Value} {below : List Frame} {meth : Method} {c : Code} {D : va_G} {ad : Nat → Nat} {cy : ClassId} {r : Unit} {σ' : SS} (E : CallFix p m c cX2_addFactor 7 s args TT yX2_addFactor.cls) (hr : meth.sig.returnType = none) (hlk : meth.locks = false) (g9 : SS → Int32 → Int32 → Int32 → Int32 → Option (Unit × SS)) (hg9 : ∀ (σ : SS) (x2 : Int32) (x3 : Int32) (x4 : Int32) (x5 : Int32), g9 σ x2 x3 x4 x5 = some (r, σ') → At p l e 1 30 s m args below meth c D (cw ad cy) (cas ad) cy (none) σ' 7 9 [(0, .ref (ad 20)), (1, .ref (ad 1)), (2, .int x2), (3, .int x3), (4, .int x4), (5, .int x5)] [] σ) : ∀ (σ : SS) (x2 : Int32) (x3 : Int32) (x4 : Int32) (x5 : Int32), f_c_X2_addFactor_9 g9 σ x2 x3 x4 x5 = some (r, σ') → At p l e 1 30 s m args below meth c D (cw ad cy) (cas ad) cy (none) σ' 7 9 [(0, .ref (ad 20)), (1, .ref (ad 1)), (2, .int x2), (3, .int x3), (4, .int x4), (5, .int x5)] [] σ := by
  intro σ x2 x3 x4 x5 hf H locs ls hG hl
  unfold f_c_X2_addFactor_9 at hf
  refine lv_iload E.1 E.2.1 dX2_addFactor_9 (lv_at hl 5 rfl) ?_
  refine lv_iload_n E.1 E.2.1 dX2_addFactor_11 rfl (lv_at hl 2 rfl) ?_
  refine lv_icmp_ge (tgt := 43) E.1 E.2.1 dX2_addFactor_12 (by decide) (fun hc => ?_) (fun hc => ?_)
  · replace hf := (if_pos hc).symm.trans hf
    refine lv_aload_n E.1 E.2.1 dX2_addFactor_43 rfl (lv_at hl 0 rfl) ?_
    refine lv_iload_n E.1 E.2.1 dX2_addFactor_44 rfl (lv_at hl 2 rfl) ?_
    refine lv_iload_n E.1 E.2.1 dX2_addFactor_45 rfl (lv_at hl 3 rfl) ?_
    refine lv_iconst (v := (1 : Int32)) E.1 E.2.1 dX2_addFactor_46 (by decide) ?_
    refine va_mmax E.1 E.2.1 (E.2.2.1.trans hl.1.symm) E.2.2.2.1 (E.2.2.2.2 _ Wd_565) (E.2.2.2.2 _ Wd_566) (E.2.2.2.2 _ Wd_63) (E.2.2.2.2 _ Wd_567) (Nat.le_of_ble_eq_true rfl) (Nat.le_of_ble_eq_true rfl) (Nat.zero_le _) (Nat.zero_le _) dX2_addFactor_47 ?_
    refine lv_iload E.1 E.2.1 dX2_addFactor_50 (lv_at hl 4 rfl) ?_
    obtain ⟨r52, σ52, hcl, hf⟩ := bd_some hf
    refine cl_U (rest := []) (st1 := []) (As := [.int x2, .int (if x3 < (1 : Int32) then (1 : Int32) else x3), .int x4]) E hG (c_c_X7_add_20 hcl) Wd_568 mu_X2_X7_add_X2 (Or.inl rfl) ⟨Nat.le_of_ble_eq_true rfl, Nat.le_of_ble_eq_true rfl, Nat.zero_le _, Nat.zero_le _⟩ 4 20 rfl rfl rfl hl.1 rfl (Nat.le_of_ble_eq_true rfl) dX2_addFactor_52 rfl (fun H locs hG => ?_)
    exact r_v E hr hlk hG hf dX2_addFactor_55
  · replace hf := (if_neg hc).symm.trans hf
    refine lv_aload_n E.1 E.2.1 dX2_addFactor_15 rfl (lv_at hl 1 rfl) ?_
    refine lv_iload E.1 E.2.1 dX2_addFactor_16 (lv_at hl 5 rfl) ?_
    refine lv_iload_n E.1 E.2.1 dX2_addFactor_18 rfl (lv_at hl 2 rfl) ?_
    obtain ⟨r19, σ19, hcl, hf⟩ := bd_some hf
    refine cl_S (rest := []) (st1 := [.int r19]) (As := [.ref (ad 1), .int x5, .int x2]) E hG (c_c_X2_commonRun hcl) Wd_562 mi_X2_commonRun ⟨Nat.le_of_ble_eq_true rfl, Nat.le_of_ble_eq_true rfl, Nat.zero_le _, Nat.zero_le _⟩ rfl hl.1 rfl (Nat.le_of_ble_eq_true rfl) dX2_addFactor_19 rfl (fun H locs hG => ?_)
    refine lv_istore (lv' := [(6, .int r19), (0, .ref (ad 20)), (1, .ref (ad 1)), (2, .int x2), (3, .int x3), (4, .int x4), (5, .int x5)]) E.1 E.2.1 dX2_addFactor_22 hl (by decide) rfl (fun ls hl => ?_)
    refine lv_iload E.1 E.2.1 dX2_addFactor_24 (lv_at hl 0 rfl) ?_
    refine lv_iload_n E.1 E.2.1 dX2_addFactor_26 rfl (lv_at hl 4 rfl) ?_
    refine lv_icmp_le (tgt := 37) E.1 E.2.1 dX2_addFactor_27 (by decide) (fun hc => ?_) (fun hc => ?_)
    · replace hf := (if_pos hc).symm.trans hf
      refine lv_iinc (v := (x5 + (1 : Int32))) (lv' := [(5, .int (x5 + (1 : Int32))), (6, .int r19), (0, .ref (ad 20)), (1, .ref (ad 1)), (2, .int x2), (3, .int x3), (4, .int x4)]) E.1 E.2.1 dX2_addFactor_37 hl (k := 6) rfl rfl (by decide) rfl (fun ls hl => ?_)
      refine lv_goto (tgt := 9) E.1 E.2.1 dX2_addFactor_40 (by decide) ?_
      exact hg9 _ _ _ _ _ hf _ _ _ hG (lv_sub hl [2, 3, 4, 5, 6, 0] rfl)
    · replace hf := (if_neg hc).symm.trans hf
      refine lv_iload E.1 E.2.1 dX2_addFactor_30 (lv_at hl 0 rfl) ?_
      refine lv_istore_n (lv' := [(3, .int r19), (6, .int r19), (0, .ref (ad 20)), (1, .ref (ad 1)), (2, .int x2), (4, .int x4), (5, .int x5)]) E.1 E.2.1 dX2_addFactor_32 rfl hl (by decide) rfl (fun ls hl => ?_)
      refine lv_iload E.1 E.2.1 dX2_addFactor_33 (lv_at hl 6 rfl) ?_
      refine lv_istore (lv' := [(4, .int x5), (3, .int r19), (6, .int r19), (0, .ref (ad 20)), (1, .ref (ad 1)), (2, .int x2), (5, .int x5)]) E.1 E.2.1 dX2_addFactor_35 hl (by decide) rfl (fun ls hl => ?_)
      refine lv_iinc (v := (x5 + (1 : Int32))) (lv' := [(5, .int (x5 + (1 : Int32))), (4, .int x5), (3, .int r19), (6, .int r19), (0, .ref (ad 20)), (1, .ref (ad 1)), (2, .int x2)]) E.1 E.2.1 dX2_addFactor_37 hl (k := 6) rfl rfl (by decide) rfl (fun ls hl => ?_)
      refine lv_goto (tgt := 9) E.1 E.2.1 dX2_addFactor_40 (by decide) ?_
      exact hg9 _ _ _ _ _ hf _ _ _ hG (lv_sub hl [4, 5, 6, 2, 1, 0] rfl)

set_option maxHeartbeats 4000000 in
set_option maxRecDepth 100000 in
theorem c_c_X2_addFactor {l : Launch} {D : va_G} {ad : Nat → Nat} {cy : ClassId} {σ : SS} {x2 : Int32} {r : Unit} {σ' : SS} (hf : f_c_X2_addFactor σ x2 = some (r, σ')) : Ctr l D (cw ad cy) (cas ad) cy yX2_addFactor cX2_addFactor 7 none 1 30 [.ref (ad 20), .ref (ad 1), .int x2] σ (none) σ' := by
  refine Ctr.of (cw_as ad cy) rfl (Nat.le_of_ble_eq_true rfl) (fun p e s m args below meth c ls E hr hlk hl hG => ?_)
  have hl : lv_has ls 7 [(0, .ref (ad 20)), (1, .ref (ad 1)), (2, .int x2)] := hl
  unfold f_c_X2_addFactor at hf
  refine lv_iconst (v := (0 : Int32)) E.1 E.2.1 dX2_addFactor_0 (by decide) ?_
  refine lv_istore_n (lv' := [(3, .int (0 : Int32)), (0, .ref (ad 20)), (1, .ref (ad 1)), (2, .int x2)]) E.1 E.2.1 dX2_addFactor_1 rfl hl (by decide) rfl (fun ls hl => ?_)
  refine lv_bipush (v := (-2 : Int32)) E.1 E.2.1 dX2_addFactor_2 (by decide) ?_
  refine lv_istore (lv' := [(4, .int (-2 : Int32)), (3, .int (0 : Int32)), (0, .ref (ad 20)), (1, .ref (ad 1)), (2, .int x2)]) E.1 E.2.1 dX2_addFactor_4 hl (by decide) rfl (fun ls hl => ?_)
  refine lv_iconst (v := (0 : Int32)) E.1 E.2.1 dX2_addFactor_6 (by decide) ?_
  refine lv_istore (lv' := [(5, .int (0 : Int32)), (4, .int (-2 : Int32)), (3, .int (0 : Int32)), (0, .ref (ad 20)), (1, .ref (ad 1)), (2, .int x2)]) E.1 E.2.1 dX2_addFactor_7 hl (by decide) rfl (fun ls hl => ?_)
  exact L4_at (P := fun σ x2 x3 x4 x5 => At p l e 1 30 s m args below meth c D (cw ad cy) (cas ad) cy (none) σ' 7 9 [(0, .ref (ad 20)), (1, .ref (ad 1)), (2, .int x2), (3, .int x3), (4, .int x4), (5, .int x5)] [] σ) (fun g hg => k_c_X2_addFactor_9 E hr hlk g hg) FUEL _ _ _ _ _ hf _ _ _ hG (lv_sub hl [3, 4, 5, 2, 1, 0] rfl)

set_option maxHeartbeats 4000000 in
set_option maxRecDepth 100000 in
theorem k_c_X2_cut_4 {p : Program} {l : Launch} {e : Env} {s : State} {m : MethodId} {args : Array Value} {below : List Frame} {meth : Method} {c : Code} {D : va_G} {ad : Nat → Nat} {cy : ClassId} {r : Unit} {σ' : SS} (E : CallFix p m c cX2_cut 4 s args TT yX2_cut.cls) (hr : meth.sig.returnType = none) (hlk : meth.locks = false) (g4 : SS → Int32 → Int32 → Option (Unit × SS)) (hg4 : ∀ (σ : SS) (x2 : Int32) (x3 : Int32), g4 σ x2 x3 = some (r, σ') → At p l e 2 56 s m args below meth c D (cw ad cy) (cas ad) cy (none) σ' 4 4 [(0, .ref (ad 20)), (1, .ref (ad 1)), (2, .int x2), (3, .int x3)] [] σ) : ∀ (σ : SS) (x2 : Int32) (x3 : Int32), f_c_X2_cut_4 g4 σ x2 x3 = some (r, σ') → At p l e 2 56 s m args below meth c D (cw ad cy) (cas ad) cy (none) σ' 4 4 [(0, .ref (ad 20)), (1, .ref (ad 1)), (2, .int x2), (3, .int x3)] [] σ := by
  intro σ x2 x3 hf H locs ls hG hl
  unfold f_c_X2_cut_4 at hf
  refine lv_iload_n E.1 E.2.1 dX2_cut_4 rfl (lv_at hl 3 rfl) ?_
  refine lv_aload_n E.1 E.2.1 dX2_cut_5 rfl (lv_at hl 1 rfl) ?_
  refine fg_c_X2_9_1 E hG dX2_cut_6 ?_
  refine lv_icmp_ge (tgt := 43) E.1 E.2.1 dX2_cut_9 (by decide) (fun hc => ?_) (fun hc => ?_)
  · replace hf := (if_pos hc).symm.trans hf
    exact r_v E hr hlk hG hf dX2_cut_43
  · replace hf := (if_neg hc).symm.trans hf
    refine lv_iload_n E.1 E.2.1 dX2_cut_12 rfl (lv_at hl 3 rfl) ?_
    refine lv_iload_n E.1 E.2.1 dX2_cut_13 rfl (lv_at hl 2 rfl) ?_
    refine lv_icmp_ne (tgt := 37) E.1 E.2.1 dX2_cut_14 (by decide) (fun hc => ?_) (fun hc => ?_)
    · replace hf := (if_neg hc).symm.trans hf
      refine lv_iinc (v := (x3 + (1 : Int32))) (lv' := [(3, .int (x3 + (1 : Int32))), (0, .ref (ad 20)), (1, .ref (ad 1)), (2, .int x2)]) E.1 E.2.1 dX2_cut_37 hl (k := 3) rfl rfl (by decide) rfl (fun ls hl => ?_)
      refine lv_goto (tgt := 4) E.1 E.2.1 dX2_cut_40 (by decide) ?_
      exact hg4 _ _ _ hf _ _ _ hG (lv_sub hl [1, 2, 3, 0] rfl)
    · replace hf := (if_pos hc).symm.trans hf
      refine lv_aload_n E.1 E.2.1 dX2_cut_17 rfl (lv_at hl 0 rfl) ?_
      refine lv_aload_n E.1 E.2.1 dX2_cut_18 rfl (lv_at hl 1 rfl) ?_
      refine lv_iload_n E.1 E.2.1 dX2_cut_19 rfl (lv_at hl 3 rfl) ?_
      obtain ⟨r20, σ20, hcl, hf⟩ := bd_some hf
      refine cl_V (rest := []) (st1 := []) (As := [.ref (ad 1), .int x3]) E hG (c_c_X2_addFactor hcl) Wd_558 mi_X2_addFactor ⟨Nat.le_of_ble_eq_true rfl, Nat.le_of_ble_eq_true rfl, Nat.zero_le _, Nat.zero_le _⟩ 4 20 rfl rfl rfl hl.1 rfl (Nat.le_of_ble_eq_true rfl) dX2_cut_20 rfl (fun H locs hG => ?_)
      refine lv_iload_n E.1 E.2.1 dX2_cut_23 rfl (lv_at hl 3 rfl) ?_
      refine lv_aload_n E.1 E.2.1 dX2_cut_24 rfl (lv_at hl 0 rfl) ?_
      refine fg_c_X2_21_20 E hG dX2_cut_25 ?_
      refine lv_aload_n E.1 E.2.1 dX2_cut_28 rfl (lv_at hl 0 rfl) ?_
      refine fg_c_X2_25_20 E hG dX2_cut_29 ?_
      refine lv_iconst (v := (1 : Int32)) E.1 E.2.1 dX2_cut_32 (by decide) ?_
      refine lv_isub E.1 E.2.1 dX2_cut_33 ?_
      obtain ⟨hin, hf⟩ := gd_some hf
      refine al_c_22 E hG hin dX2_cut_34 ?_
      refine lv_iadd E.1 E.2.1 dX2_cut_35 ?_
      refine lv_istore_n (lv' := [(2, .int (x3 + (σ20.2 14 (Int32.toNatClampNeg ((σ20.1 9) - (1 : Int32)))))), (0, .ref (ad 20)), (1, .ref (ad 1)), (3, .int x3)]) E.1 E.2.1 dX2_cut_36 rfl hl (by decide) rfl (fun ls hl => ?_)
      refine lv_iinc (v := (x3 + (1 : Int32))) (lv' := [(3, .int (x3 + (1 : Int32))), (2, .int (x3 + (σ20.2 14 (Int32.toNatClampNeg ((σ20.1 9) - (1 : Int32)))))), (0, .ref (ad 20)), (1, .ref (ad 1))]) E.1 E.2.1 dX2_cut_37 hl (k := 3) rfl rfl (by decide) rfl (fun ls hl => ?_)
      refine lv_goto (tgt := 4) E.1 E.2.1 dX2_cut_40 (by decide) ?_
      exact hg4 _ _ _ hf _ _ _ hG (lv_sub hl [2, 3, 1, 0] rfl)

set_option maxHeartbeats 4000000 in
set_option maxRecDepth 100000 in
theorem c_c_X2_cut {l : Launch} {D : va_G} {ad : Nat → Nat} {cy : ClassId} {σ : SS} {r : Unit} {σ' : SS} (hf : f_c_X2_cut σ = some (r, σ')) : Ctr l D (cw ad cy) (cas ad) cy yX2_cut cX2_cut 4 none 2 56 [.ref (ad 20), .ref (ad 1)] σ (none) σ' := by
  refine Ctr.of (cw_as ad cy) rfl (Nat.le_of_ble_eq_true rfl) (fun p e s m args below meth c ls E hr hlk hl hG => ?_)
  have hl : lv_has ls 4 [(0, .ref (ad 20)), (1, .ref (ad 1))] := hl
  unfold f_c_X2_cut at hf
  refine lv_iconst (v := (0 : Int32)) E.1 E.2.1 dX2_cut_0 (by decide) ?_
  refine lv_istore_n (lv' := [(2, .int (0 : Int32)), (0, .ref (ad 20)), (1, .ref (ad 1))]) E.1 E.2.1 dX2_cut_1 rfl hl (by decide) rfl (fun ls hl => ?_)
  refine lv_iconst (v := (0 : Int32)) E.1 E.2.1 dX2_cut_2 (by decide) ?_
  refine lv_istore_n (lv' := [(3, .int (0 : Int32)), (2, .int (0 : Int32)), (0, .ref (ad 20)), (1, .ref (ad 1))]) E.1 E.2.1 dX2_cut_3 rfl hl (by decide) rfl (fun ls hl => ?_)
  exact L2_at (P := fun σ x2 x3 => At p l e 2 56 s m args below meth c D (cw ad cy) (cas ad) cy (none) σ' 4 4 [(0, .ref (ad 20)), (1, .ref (ad 1)), (2, .int x2), (3, .int x3)] [] σ) (fun g hg => k_c_X2_cut_4 E hr hlk g hg) FUEL _ _ _ hf _ _ _ hG (lv_sub hl [2, 3, 1, 0] rfl)

set_option maxHeartbeats 4000000 in
set_option maxRecDepth 100000 in
theorem c_c_X7_follow_20 {l : Launch} {D : va_G} {ad : Nat → Nat} {cy : ClassId} {σ : SS} {r : Unit} {σ' : SS} (hf : f_c_X7_follow_20 σ = some (r, σ')) : Ctr l D (cw ad cy) (cas ad) cy yX7_follow cX7_follow 2 none 3 79 [.ref (ad 20), .ref (ad 1)] σ (none) σ' := by
  refine Ctr.of (cw_as ad cy) rfl (Nat.le_of_ble_eq_true rfl) (fun p e s m args below meth c ls E hr hlk hl hG => ?_)
  have hl : lv_has ls 2 [(0, .ref (ad 20)), (1, .ref (ad 1))] := hl
  unfold f_c_X7_follow_20 at hf
  refine lv_aload_n E.1 E.2.1 dX7_follow_0 rfl (lv_at hl 0 rfl) ?_
  refine fg_c_X7_21_20 E hG dX7_follow_1 ?_
  refine lv_aload_n E.1 E.2.1 dX7_follow_4 rfl (lv_at hl 1 rfl) ?_
  refine fg_c_X7_25_1 E hG dX7_follow_5 ?_
  refine lv_icmp_ne (tgt := 12) E.1 E.2.1 dX7_follow_8 (by decide) (fun hc => ?_) (fun hc => ?_)
  · replace hf := (if_neg hc).symm.trans hf
    refine lv_aload_n E.1 E.2.1 dX7_follow_12 rfl (lv_at hl 0 rfl) ?_
    refine lv_aload_n E.1 E.2.1 dX7_follow_13 rfl (lv_at hl 1 rfl) ?_
    refine fg_c_X7_25_1 E hG dX7_follow_14 ?_
    refine fp_c_X7_21_20 E hG dX7_follow_17 (fun H locs hG => ?_)
    refine lv_aload_n E.1 E.2.1 dX7_follow_20 rfl (lv_at hl 0 rfl) ?_
    refine lv_iconst (v := (0 : Int32)) E.1 E.2.1 dX7_follow_21 (by decide) ?_
    refine fp_c_X7_30_20 E hG dX7_follow_22 (fun H locs hG => ?_)
    refine lv_aload_n E.1 E.2.1 dX7_follow_25 rfl (lv_at hl 0 rfl) ?_
    refine lv_aload_n E.1 E.2.1 dX7_follow_26 rfl (lv_at hl 1 rfl) ?_
    obtain ⟨r27, σ27, hcl, hf⟩ := bd_some hf
    refine cl_U (rest := []) (st1 := []) (As := [.ref (ad 1)]) E hG (c_c_X2_cut hcl) Wd_552 mu_X7_X2_cut_X2 (Or.inr rfl) ⟨Nat.le_of_ble_eq_true rfl, Nat.le_of_ble_eq_true rfl, Nat.zero_le _, Nat.zero_le _⟩ 4 20 rfl rfl rfl hl.1 rfl (Nat.le_of_ble_eq_true rfl) dX7_follow_27 rfl (fun H locs hG => ?_)
    exact r_v E hr hlk hG hf dX7_follow_30
  · replace hf := (if_pos hc).symm.trans hf
    exact r_v E hr hlk hG hf dX7_follow_11

set_option maxHeartbeats 4000000 in
set_option maxRecDepth 100000 in
theorem c_c_X11_cutPieces {l : Launch} {D : va_G} {ad : Nat → Nat} {cy : ClassId} {σ : SS} {x1 : Int32} {r : Nat} {σ' : SS} (hf : f_c_X11_cutPieces σ x1 = some (r, σ')) : Ctr l D (cw ad cy) (cas ad) cy yX11_cutPieces cX11_cutPieces 3 (some (FieldType.object "EntropyBounds$Pieces")) 4 100 [.ref (ad 0), .int x1] σ (some (.ref (ad r))) σ' := by
  refine Ctr.of (cw_as ad cy) rfl (Nat.le_of_ble_eq_true rfl) (fun p e s m args below meth c ls E hr hlk hl hG => ?_)
  have hl : lv_has ls 3 [(0, .ref (ad 0)), (1, .int x1)] := hl
  unfold f_c_X11_cutPieces at hf
  refine lv_iload_n E.1 E.2.1 dX11_cutPieces_0 rfl (lv_at hl 1 rfl) ?_
  refine lv_if_ne (tgt := 11) E.1 E.2.1 dX11_cutPieces_1 (by decide) (fun hc => ?_) (fun hc => ?_)
  · replace hf := (if_neg hc).symm.trans hf
    refine lv_aload_n E.1 E.2.1 dX11_cutPieces_11 rfl (lv_at hl 0 rfl) ?_
    refine fg_c_X11_54_0 E hG dX11_cutPieces_12 ?_
    refine lv_astore_n (lv' := [(2, .ref (ad 24)), (0, .ref (ad 0)), (1, .int x1)]) E.1 E.2.1 dX11_cutPieces_15 rfl hl (by decide) rfl (fun ls hl => ?_)
    refine lv_aload_n E.1 E.2.1 dX11_cutPieces_16 rfl (lv_at hl 0 rfl) ?_
    refine lv_aload_n E.1 E.2.1 dX11_cutPieces_17 rfl (lv_at hl 1 rfl) ?_
    refine fg_c_X11_10_0 E hG dX11_cutPieces_18 ?_
    obtain ⟨r21, σ21, hcl, hf⟩ := bd_some hf
    refine cl_U (rest := []) (st1 := []) (As := [.ref (ad 1)]) E hG (c_c_X7_follow_24 hcl) Wd_546 mu_X7_X7_follow_X6 (Or.inl rfl) ⟨Nat.le_of_ble_eq_true rfl, Nat.le_of_ble_eq_true rfl, Nat.zero_le _, Nat.zero_le _⟩ 8 24 rfl rfl rfl hl.1 rfl (Nat.le_of_ble_eq_true rfl) dX11_cutPieces_21 rfl (fun H locs hG => ?_)
    refine lv_aload_n E.1 E.2.1 dX11_cutPieces_24 rfl (lv_at hl 0 rfl) ?_
    exact r_a E hr hlk hG hf dX11_cutPieces_25
  · replace hf := (if_pos hc).symm.trans hf
    refine lv_aload_n E.1 E.2.1 dX11_cutPieces_4 rfl (lv_at hl 0 rfl) ?_
    refine fg_c_X11_47_0 E hG dX11_cutPieces_5 ?_
    refine lv_goto (tgt := 15) E.1 E.2.1 dX11_cutPieces_8 (by decide) ?_
    refine lv_astore_n (lv' := [(2, .ref (ad 20)), (0, .ref (ad 0)), (1, .int x1)]) E.1 E.2.1 dX11_cutPieces_15 rfl hl (by decide) rfl (fun ls hl => ?_)
    refine lv_aload_n E.1 E.2.1 dX11_cutPieces_16 rfl (lv_at hl 0 rfl) ?_
    refine lv_aload_n E.1 E.2.1 dX11_cutPieces_17 rfl (lv_at hl 1 rfl) ?_
    refine fg_c_X11_10_0 E hG dX11_cutPieces_18 ?_
    obtain ⟨r21, σ21, hcl, hf⟩ := bd_some hf
    refine cl_U (rest := []) (st1 := []) (As := [.ref (ad 1)]) E hG (c_c_X7_follow_20 hcl) Wd_546 mu_X7_X7_follow_X2 (Or.inl rfl) ⟨Nat.le_of_ble_eq_true rfl, Nat.le_of_ble_eq_true rfl, Nat.zero_le _, Nat.zero_le _⟩ 4 20 rfl rfl rfl hl.1 rfl (Nat.le_of_ble_eq_true rfl) dX11_cutPieces_21 rfl (fun H locs hG => ?_)
    refine lv_aload_n E.1 E.2.1 dX11_cutPieces_24 rfl (lv_at hl 0 rfl) ?_
    exact r_a E hr hlk hG hf dX11_cutPieces_25
