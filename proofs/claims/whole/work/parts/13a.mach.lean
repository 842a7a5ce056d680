set_option maxHeartbeats 4000000 in
set_option maxRecDepth 100000 in
theorem c_m_X12_thrown {l : Launch} {D : va_G} {ad : Nat → Nat} {cy : ClassId} {σ : SS} {r : Int32} {σ' : SS} (hf : f_m_X12_thrown σ = some (r, σ')) : Ctr l D (mw ad cy) (mas ad) cy yX12_thrown cX12_thrown 1 (some FieldType.int) 0 0 [.ref (ad 0)] σ (some (.int r)) σ' := by
  refine Ctr.of (mw_as ad cy) rfl (Nat.le_of_ble_eq_true rfl) (fun p e s m args below meth c ls E hr hlk hl hG => ?_)
  have hl : lv_has ls 1 [(0, .ref (ad 0))] := hl
  unfold f_m_X12_thrown at hf
  refine lv_aload_n E.1 E.2.1 dX12_thrown_0 rfl (lv_at hl 0 rfl) ?_
  refine fg_m_X12_59_0 E hG dX12_thrown_1 ?_
  exact r_i E hr hlk hG hf dX12_thrown_4

set_option maxHeartbeats 4000000 in
set_option maxRecDepth 100000 in
theorem c_m_X12_in {l : Launch} {D : va_G} {ad : Nat → Nat} {cy : ClassId} {σ : SS} {x0 : Int64} {x2 : Int64} {x4 : Int64} {r : Int32} {σ' : SS} (hf : f_m_X12_in σ x0 x2 x4 = some (r, σ')) : Ctr l D (mw ad cy) (mas ad) cy yX12_in cX12_in 6 (some FieldType.boolean) 0 0 [.long x0, .long x2, .long x4] σ (some (.int r)) σ' := by
  refine Ctr.of (mw_as ad cy) rfl (Nat.le_of_ble_eq_true rfl) (fun p e s m args below meth c ls E hr hlk hl hG => ?_)
  have hl : lv_has ls 6 [(0, .long x0), (2, .long x2), (4, .long x4)] := hl
  unfold f_m_X12_in at hf
  refine lv_lload_n E.1 E.2.1 dX12_in_0 rfl (lv_at hl 0 rfl) ?_
  refine lv_lload_n E.1 E.2.1 dX12_in_1 rfl (lv_at hl 1 rfl) ?_
  refine W.lcmp E.1 E.2.1 dX12_in_2 ?_
  refine lv_if_lt (tgt := 17) E.1 E.2.1 dX12_in_3 (by decide) (fun hc => ?_) (fun hc => ?_)
  · replace hf := (if_pos hc).symm.trans hf
    refine lv_iconst (v := (0 : Int32)) E.1 E.2.1 dX12_in_17 (by decide) ?_
    exact r_z E hr hlk hG hf (by decide +kernel) dX12_in_18
  · replace hf := (if_neg hc).symm.trans hf
    refine lv_lload_n E.1 E.2.1 dX12_in_6 rfl (lv_at hl 0 rfl) ?_
    refine lv_lload E.1 E.2.1 dX12_in_7 (lv_at hl 2 rfl) ?_
    refine W.lcmp E.1 E.2.1 dX12_in_9 ?_
    refine lv_if_gt (tgt := 17) E.1 E.2.1 dX12_in_10 (by decide) (fun hc => ?_) (fun hc => ?_)
    · replace hf := (if_pos hc).symm.trans hf
      refine lv_iconst (v := (0 : Int32)) E.1 E.2.1 dX12_in_17 (by decide) ?_
      exact r_z E hr hlk hG hf (by decide +kernel) dX12_in_18
    · replace hf := (if_neg hc).symm.trans hf
      refine lv_iconst (v := (1 : Int32)) E.1 E.2.1 dX12_in_13 (by decide) ?_
      refine lv_goto (tgt := 18) E.1 E.2.1 dX12_in_14 (by decide) ?_
      exact r_z E hr hlk hG hf (by decide +kernel) dX12_in_18

set_option maxHeartbeats 4000000 in
set_option maxRecDepth 100000 in
theorem c_m_X12_isSign {l : Launch} {D : va_G} {ad : Nat → Nat} {cy : ClassId} {σ : SS} {x0 : Int32} {r : Int32} {σ' : SS} (hf : f_m_X12_isSign σ x0 = some (r, σ')) : Ctr l D (mw ad cy) (mas ad) cy yX12_isSign cX12_isSign 1 (some FieldType.boolean) 1 25 [.int x0] σ (some (.int r)) σ' := by
  refine Ctr.of (mw_as ad cy) rfl (Nat.le_of_ble_eq_true rfl) (fun p e s m args below meth c ls E hr hlk hl hG => ?_)
  have hl : lv_has ls 1 [(0, .int x0)] := hl
  unfold f_m_X12_isSign at hf
  refine lv_iload_n E.1 E.2.1 dX12_isSign_0 rfl (lv_at hl 0 rfl) ?_
  refine lv_i2l E.1 E.2.1 dX12_isSign_1 rfl ?_
  refine lv_lconst (v := (0 : Int64)) E.1 E.2.1 dX12_isSign_2 (by decide) ?_
  refine lv_ldc2 E.1 E.2.1 E.2.2.2.1 (E.2.2.2.2 _ Wd_836) dX12_isSign_3 ?_
  obtain ⟨r6, σ6, hcl, hf⟩ := bd_some hf
  refine cl_S (rest := []) (st1 := [.int r6]) (As := [.long (Int32.toInt64 x0), .long (0 : Int64), .long (15 : Int64)]) E hG (c_m_X12_in hcl) Wd_837 mi_X12_in ⟨Nat.le_of_ble_eq_true rfl, Nat.le_of_ble_eq_true rfl, Nat.zero_le _, Nat.zero_le _⟩ rfl hl.1 rfl (Nat.le_of_ble_eq_true rfl) dX12_isSign_6 rfl (fun H locs hG => ?_)
  obtain ⟨hz, hf⟩ := gb_some hf
  exact r_z E hr hlk hG hf hz dX12_isSign_9

set_option maxHeartbeats 4000000 in
set_option maxRecDepth 100000 in
theorem c_m_X12_isKind {l : Launch} {D : va_G} {ad : Nat → Nat} {cy : ClassId} {σ : SS} {x0 : Int32} {r : Int32} {σ' : SS} (hf : f_m_X12_isKind σ x0 = some (r, σ')) : Ctr l D (mw ad cy) (mas ad) cy yX12_isKind cX12_isKind 1 (some FieldType.boolean) 1 25 [.int x0] σ (some (.int r)) σ' := by
  refine Ctr.of (mw_as ad cy) rfl (Nat.le_of_ble_eq_true rfl) (fun p e s m args below meth c ls E hr hlk hl hG => ?_)
  have hl : lv_has ls 1 [(0, .int x0)] := hl
  unfold f_m_X12_isKind at hf
  refine lv_iload_n E.1 E.2.1 dX12_isKind_0 rfl (lv_at hl 0 rfl) ?_
  refine lv_i2l E.1 E.2.1 dX12_isKind_1 rfl ?_
  refine lv_lconst (v := (0 : Int64)) E.1 E.2.1 dX12_isKind_2 (by decide) ?_
  refine lv_lconst (v := (1 : Int64)) E.1 E.2.1 dX12_isKind_3 (by decide) ?_
  obtain ⟨r4, σ4, hcl, hf⟩ := bd_some hf
  refine cl_S (rest := []) (st1 := [.int r4]) (As := [.long (Int32.toInt64 x0), .long (0 : Int64), .long (1 : Int64)]) E hG (c_m_X12_in hcl) Wd_837 mi_X12_in ⟨Nat.le_of_ble_eq_true rfl, Nat.le_of_ble_eq_true rfl, Nat.zero_le _, Nat.zero_le _⟩ rfl hl.1 rfl (Nat.le_of_ble_eq_true rfl) dX12_isKind_4 rfl (fun H locs hG => ?_)
  obtain ⟨hz, hf⟩ := gb_some hf
  exact r_z E hr hlk hG hf hz dX12_isKind_7

set_option maxHeartbeats 4000000 in
set_option maxRecDepth 100000 in
theorem c_m_X12_sign {l : Launch} {D : va_G} {ad : Nat → Nat} {cy : ClassId} {σ : SS} {x1 : Int32} {r : Int32} {σ' : SS} (hf : f_m_X12_sign σ x1 = some (r, σ')) : Ctr l D (mw ad cy) (mas ad) cy yX12_sign cX12_sign 2 (some FieldType.int) 2 45 [.ref (ad 0), .int x1] σ (some (.int r)) σ' := by
  refine Ctr.of (mw_as ad cy) rfl (Nat.le_of_ble_eq_true rfl) (fun p e s m args below meth c ls E hr hlk hl hG => ?_)
  have hl : lv_has ls 2 [(0, .ref (ad 0)), (1, .int x1)] := hl
  unfold f_m_X12_sign at hf
  refine lv_aload_n E.1 E.2.1 dX12_sign_0 rfl (lv_at hl 0 rfl) ?_
  refine lv_iconst (v := (0 : Int32)) E.1 E.2.1 dX12_sign_1 (by decide) ?_
  refine fp_m_X12_59_0 E hG dX12_sign_2 (fun H locs hG => ?_)
  refine lv_iload_n E.1 E.2.1 dX12_sign_5 rfl (lv_at hl 1 rfl) ?_
  obtain ⟨r6, σ6, hcl, hf⟩ := bd_some hf
  refine cl_S (rest := []) (st1 := [.int r6]) (As := [.int x1]) E hG (c_m_X12_isSign hcl) Wd_833 mi_X12_isSign ⟨Nat.le_of_ble_eq_true rfl, Nat.le_of_ble_eq_true rfl, Nat.zero_le _, Nat.zero_le _⟩ rfl hl.1 rfl (Nat.le_of_ble_eq_true rfl) dX12_sign_6 rfl (fun H locs hG => ?_)
  refine lv_if_ne (tgt := 14) E.1 E.2.1 dX12_sign_9 (by decide) (fun hc => ?_) (fun hc => ?_)
  · replace hf := (if_neg hc).symm.trans hf
    refine lv_aload_n E.1 E.2.1 dX12_sign_14 rfl (lv_at hl 0 rfl) ?_
    refine fg_m_X12_72_0 E hG dX12_sign_15 ?_
    refine lv_sipush (v := (400 : Int32)) E.1 E.2.1 dX12_sign_18 (by decide) ?_
    refine lv_icmp_ne (tgt := 27) E.1 E.2.1 dX12_sign_21 (by decide) (fun hc => ?_) (fun hc => ?_)
    · replace hf := (if_neg hc).symm.trans hf
      refine lv_aload_n E.1 E.2.1 dX12_sign_27 rfl (lv_at hl 0 rfl) ?_
      refine fg_m_X12_7_0 E hG dX12_sign_28 ?_
      refine lv_aload_n E.1 E.2.1 dX12_sign_31 rfl (lv_at hl 0 rfl) ?_
      refine fg_m_X12_72_0 E hG dX12_sign_32 ?_
      refine lv_iload_n E.1 E.2.1 dX12_sign_35 rfl (lv_at hl 1 rfl) ?_
      obtain ⟨hin, hf⟩ := gd_some hf
      refine as_m_1 E hG hin dX12_sign_36 (fun H locs hG => ?_)
      refine lv_aload_n E.1 E.2.1 dX12_sign_37 rfl (lv_at hl 0 rfl) ?_
      refine lv_dup E.1 E.2.1 dX12_sign_38 rfl ?_
      refine fg_m_X12_72_0 E hG dX12_sign_39 ?_
      refine lv_iconst (v := (1 : Int32)) E.1 E.2.1 dX12_sign_42 (by decide) ?_
      refine lv_iadd E.1 E.2.1 dX12_sign_43 ?_
      refine fp_m_X12_72_0 E hG dX12_sign_44 (fun H locs hG => ?_)
      refine lv_aload_n E.1 E.2.1 dX12_sign_47 rfl (lv_at hl 0 rfl) ?_
      refine fg_m_X12_72_0 E hG dX12_sign_48 ?_
      exact r_i E hr hlk hG hf dX12_sign_51
    · replace hf := (if_pos hc).symm.trans hf
      refine lv_bipush (v := (-3 : Int32)) E.1 E.2.1 dX12_sign_24 (by decide) ?_
      exact r_i E hr hlk hG hf dX12_sign_26
  · replace hf := (if_pos hc).symm.trans hf
    refine lv_iconst (v := (-1 : Int32)) E.1 E.2.1 dX12_sign_12 (by decide) ?_
    exact r_i E hr hlk hG hf dX12_sign_13

set_option maxHeartbeats 4000000 in
set_option maxRecDepth 100000 in
theorem c_m_X12_wipe {l : Launch} {D : va_G} {ad : Nat → Nat} {cy : ClassId} {σ : SS} {r : Int32} {σ' : SS} (hf : f_m_X12_wipe σ = some (r, σ')) : Ctr l D (mw ad cy) (mas ad) cy yX12_wipe cX12_wipe 2 (some FieldType.int) 0 0 [.ref (ad 0)] σ (some (.int r)) σ' := by
  refine Ctr.of (mw_as ad cy) rfl (Nat.le_of_ble_eq_true rfl) (fun p e s m args below meth c ls E hr hlk hl hG => ?_)
  have hl : lv_has ls 2 [(0, .ref (ad 0))] := hl
  unfold f_m_X12_wipe at hf
  refine lv_aload_n E.1 E.2.1 dX12_wipe_0 rfl (lv_at hl 0 rfl) ?_
  refine lv_iconst (v := (0 : Int32)) E.1 E.2.1 dX12_wipe_1 (by decide) ?_
  refine fp_m_X12_59_0 E hG dX12_wipe_2 (fun H locs hG => ?_)
  refine lv_aload_n E.1 E.2.1 dX12_wipe_5 rfl (lv_at hl 0 rfl) ?_
  refine fg_m_X12_72_0 E hG dX12_wipe_6 ?_
  refine lv_istore_n (lv' := [(1, .int ((putI σ 0 (0 : Int32)).1 1)), (0, .ref (ad 0))]) E.1 E.2.1 dX12_wipe_9 rfl hl (by decide) rfl (fun ls hl => ?_)
  refine lv_aload_n E.1 E.2.1 dX12_wipe_10 rfl (lv_at hl 1 rfl) ?_
  refine lv_iconst (v := (0 : Int32)) E.1 E.2.1 dX12_wipe_11 (by decide) ?_
  refine fp_m_X12_72_0 E hG dX12_wipe_12 (fun H locs hG => ?_)
  refine lv_iload_n E.1 E.2.1 dX12_wipe_15 rfl (lv_at hl 0 rfl) ?_
  exact r_i E hr hlk hG hf dX12_wipe_16

set_option maxHeartbeats 4000000 in
set_option maxRecDepth 100000 in
theorem c_m_X12_length {l : Launch} {D : va_G} {ad : Nat → Nat} {cy : ClassId} {σ : SS} {r : Int32} {σ' : SS} (hf : f_m_X12_length σ = some (r, σ')) : Ctr l D (mw ad cy) (mas ad) cy yX12_length cX12_length 1 (some FieldType.int) 0 0 [.ref (ad 0)] σ (some (.int r)) σ' := by
  refine Ctr.of (mw_as ad cy) rfl (Nat.le_of_ble_eq_true rfl) (fun p e s m args below meth c ls E hr hlk hl hG => ?_)
  have hl : lv_has ls 1 [(0, .ref (ad 0))] := hl
  unfold f_m_X12_length at hf
  refine lv_aload_n E.1 E.2.1 dX12_length_0 rfl (lv_at hl 0 rfl) ?_
  refine lv_iconst (v := (0 : Int32)) E.1 E.2.1 dX12_length_1 (by decide) ?_
  refine fp_m_X12_59_0 E hG dX12_length_2 (fun H locs hG => ?_)
  refine lv_aload_n E.1 E.2.1 dX12_length_5 rfl (lv_at hl 0 rfl) ?_
  refine fg_m_X12_72_0 E hG dX12_length_6 ?_
  exact r_i E hr hlk hG hf dX12_length_9

set_option maxHeartbeats 4000000 in
set_option maxRecDepth 100000 in
theorem k_m_X12_isSameAhead_5 {p : Program} {l : Launch} {e : Env} {s : State} {m : MethodId} {args : Array Value} {below : List Frame} {meth : Method} {c : Code} {D : va_G} {ad : Nat → Nat} {cy : ClassId} {r : Int32} {σ' : SS} (E : CallFix p m c cX12_isSameAhead 5 s args TT yX12_isSameAhead.cls) (hr : meth.sig.returnType = (some FieldType.boolean)) (hlk : meth.locks = false) (g5 : SS → Int32 → Int32 → Int32 → Int32 → Option (Int32 × SS)) (hg5 : ∀ (σ : SS) (x1 : Int32) (x2 : Int32) (x3 : Int32) (x4 : Int32), g5 σ x1 x2 x3 x4 = some (r, σ') → At p l e 0 0 s m args below meth c D (mw ad cy) (mas ad) cy (some (.int r)) σ' 5 5 [(0, .ref (ad 0)), (1, .int x1), (2, .int x2), (3, .int x3), (4, .int x4)] [] σ) : ∀ (σ : SS) (x1 : Int32) (x2 : Int32) (x3 : Int32) (x4 : Int32), f_m_X12_isSameAhead_5 g5 σ x1 x2 x3 x4 = some (r, σ') → At p l e 0 0 s m args below meth c D (mw ad cy) (mas ad) cy (some (.int r)) σ' 5 5 [(0, .ref (ad 0)), (1, .int x1), (2, .int x2), (3, .int x3), (4, .int x4)] [] σ := by
  intro σ x1 x2 x3 x4 hf H locs ls hG hl
  unfold f_m_X12_isSameAhead_5 at hf
  refine lv_iload E.1 E.2.1 dX12_isSameAhead_5 (lv_at hl 4 rfl) ?_
  refine lv_aload_n E.1 E.2.1 dX12_isSameAhead_7 rfl (lv_at hl 0 rfl) ?_
  refine fg_m_X12_75_0 E hG dX12_isSameAhead_8 ?_
  refine lv_icmp_gt (tgt := 51) E.1 E.2.1 dX12_isSameAhead_11 (by decide) (fun hc => ?_) (fun hc => ?_)
  · replace hf := (if_pos hc).symm.trans hf
    refine lv_iload_n E.1 E.2.1 dX12_isSameAhead_51 rfl (lv_at hl 3 rfl) ?_
    obtain ⟨hz, hf⟩ := gb_some hf
    exact r_z E hr hlk hG hf hz dX12_isSameAhead_52
  · replace hf := (if_neg hc).symm.trans hf
    refine lv_iload_n E.1 E.2.1 dX12_isSameAhead_14 rfl (lv_at hl 3 rfl) ?_
    refine lv_if_eq (tgt := 43) E.1 E.2.1 dX12_isSameAhead_15 (by decide) (fun hc => ?_) (fun hc => ?_)
    · replace hf := (if_pos hc).symm.trans hf
      refine lv_iconst (v := (0 : Int32)) E.1 E.2.1 dX12_isSameAhead_43 (by decide) ?_
      refine lv_istore_n (lv' := [(3, .int (0 : Int32)), (0, .ref (ad 0)), (1, .int x1), (2, .int x2), (4, .int x4)]) E.1 E.2.1 dX12_isSameAhead_44 rfl hl (by decide) rfl (fun ls hl => ?_)
      refine lv_iinc (v := (x4 + (1 : Int32))) (lv' := [(4, .int (x4 + (1 : Int32))), (3, .int (0 : Int32)), (0, .ref (ad 0)), (1, .int x1), (2, .int x2)]) E.1 E.2.1 dX12_isSameAhead_45 hl (k := 4) rfl rfl (by decide) rfl (fun ls hl => ?_)
      refine lv_goto (tgt := 5) E.1 E.2.1 dX12_isSameAhead_48 (by decide) ?_
      exact hg5 _ _ _ _ _ hf _ _ _ hG (lv_sub hl [2, 3, 4, 1, 0] rfl)
    · replace hf := (if_neg hc).symm.trans hf
      refine lv_aload_n E.1 E.2.1 dX12_isSameAhead_18 rfl (lv_at hl 0 rfl) ?_
      refine fg_m_X12_7_0 E hG dX12_isSameAhead_19 ?_
      refine lv_iload_n E.1 E.2.1 dX12_isSameAhead_22 rfl (lv_at hl 1 rfl) ?_
      refine lv_iload E.1 E.2.1 dX12_isSameAhead_23 (lv_at hl 4 rfl) ?_
      refine lv_isub E.1 E.2.1 dX12_isSameAhead_25 ?_
      obtain ⟨hin, hf⟩ := gd_some hf
      refine al_m_1 E hG hin dX12_isSameAhead_26 ?_
      refine lv_aload_n E.1 E.2.1 dX12_isSameAhead_27 rfl (lv_at hl 0 rfl) ?_
      refine fg_m_X12_7_0 E hG dX12_isSameAhead_28 ?_
      refine lv_iload_n E.1 E.2.1 dX12_isSameAhead_31 rfl (lv_at hl 2 rfl) ?_
      refine lv_iload E.1 E.2.1 dX12_isSameAhead_32 (lv_at hl 4 rfl) ?_
      refine lv_isub E.1 E.2.1 dX12_isSameAhead_34 ?_
      obtain ⟨hin, hf⟩ := gd_some hf
      refine al_m_1 E hG hin dX12_isSameAhead_35 ?_
      refine lv_icmp_ne (tgt := 43) E.1 E.2.1 dX12_isSameAhead_36 (by decide) (fun hc => ?_) (fun hc => ?_)
      · replace hf := (if_neg hc).symm.trans hf
        refine lv_iconst (v := (0 : Int32)) E.1 E.2.1 dX12_isSameAhead_43 (by decide) ?_
        refine lv_istore_n (lv' := [(3, .int (0 : Int32)), (0, .ref (ad 0)), (1, .int x1), (2, .int x2), (4, .int x4)]) E.1 E.2.1 dX12_isSameAhead_44 rfl hl (by decide) rfl (fun ls hl => ?_)
        refine lv_iinc (v := (x4 + (1 : Int32))) (lv' := [(4, .int (x4 + (1 : Int32))), (3, .int (0 : Int32)), (0, .ref (ad 0)), (1, .int x1), (2, .int x2)]) E.1 E.2.1 dX12_isSameAhead_45 hl (k := 4) rfl rfl (by decide) rfl (fun ls hl => ?_)
        refine lv_goto (tgt := 5) E.1 E.2.1 dX12_isSameAhead_48 (by decide) ?_
        exact hg5 _ _ _ _ _ hf _ _ _ hG (lv_sub hl [2, 3, 4, 1, 0] rfl)
      · replace hf := (if_pos hc).symm.trans hf
        refine lv_iconst (v := (1 : Int32)) E.1 E.2.1 dX12_isSameAhead_39 (by decide) ?_
        refine lv_goto (tgt := 44) E.1 E.2.1 dX12_isSameAhead_40 (by decide) ?_
        refine lv_istore_n (lv' := [(3, .int (1 : Int32)), (0, .ref (ad 0)), (1, .int x1), (2, .int x2), (4, .int x4)]) E.1 E.2.1 dX12_isSameAhead_44 rfl hl (by decide) rfl (fun ls hl => ?_)
        refine lv_iinc (v := (x4 + (1 : Int32))) (lv' := [(4, .int (x4 + (1 : Int32))), (3, .int (1 : Int32)), (0, .ref (ad 0)), (1, .int x1), (2, .int x2)]) E.1 E.2.1 dX12_isSameAhead_45 hl (k := 4) rfl rfl (by decide) rfl (fun ls hl => ?_)
        refine lv_goto (tgt := 5) E.1 E.2.1 dX12_isSameAhead_48 (by decide) ?_
        exact hg5 _ _ _ _ _ hf _ _ _ hG (lv_sub hl [2, 3, 4, 1, 0] rfl)

set_option maxHeartbeats 4000000 in
set_option maxRecDepth 100000 in
theorem c_m_X12_isSameAhead {l : Launch} {D : va_G} {ad : Nat → Nat} {cy : ClassId} {σ : SS} {x1 : Int32} {x2 : Int32} {r : Int32} {σ' : SS} (hf : f_m_X12_isSameAhead σ x1 x2 = some (r, σ')) : Ctr l D (mw ad cy) (mas ad) cy yX12_isSameAhead cX12_isSameAhead 5 (some FieldType.boolean) 0 0 [.ref (ad 0), .int x1, .int x2] σ (some (.int r)) σ' := by
  refine Ctr.of (mw_as ad cy) rfl (Nat.le_of_ble_eq_true rfl) (fun p e s m args below meth c ls E hr hlk hl hG => ?_)
  have hl : lv_has ls 5 [(0, .ref (ad 0)), (1, .int x1), (2, .int x2)] := hl
  unfold f_m_X12_isSameAhead at hf
  refine lv_iconst (v := (1 : Int32)) E.1 E.2.1 dX12_isSameAhead_0 (by decide) ?_
  refine lv_istore_n (lv' := [(3, .int (1 : Int32)), (0, .ref (ad 0)), (1, .int x1), (2, .int x2)]) E.1 E.2.1 dX12_isSameAhead_1 rfl hl (by decide) rfl (fun ls hl => ?_)
  refine lv_iconst (v := (1 : Int32)) E.1 E.2.1 dX12_isSameAhead_2 (by decide) ?_
  refine lv_istore (lv' := [(4, .int (1 : Int32)), (3, .int (1 : Int32)), (0, .ref (ad 0)), (1, .int x1), (2, .int x2)]) E.1 E.2.1 dX12_isSameAhead_3 hl (by decide) rfl (fun ls hl => ?_)
  exact L4_at (P := fun σ x1 x2 x3 x4 => At p l e 0 0 s m args below meth c D (mw ad cy) (mas ad) cy (some (.int r)) σ' 5 5 [(0, .ref (ad 0)), (1, .int x1), (2, .int x2), (3, .int x3), (4, .int x4)] [] σ) (fun g hg => k_m_X12_isSameAhead_5 E hr hlk g hg) FUEL _ _ _ _ _ hf _ _ _ hG (lv_sub hl [2, 3, 4, 1, 0] rfl)

set_option maxHeartbeats 4000000 in
set_option maxRecDepth 100000 in
theorem k_m_X12_findContexts_106 {p : Program} {l : Launch} {e : Env} {s : State} {m : MethodId} {args : Array Value} {below : List Frame} {meth : Method} {c : Code} {D : va_G} {ad : Nat → Nat} {cy : ClassId} {r : Unit} {σ' : SS} (E : CallFix p m c cX12_findContexts 4 s args TT yX12_findContexts.cls) (hr : meth.sig.returnType = none) (hlk : meth.locks = false) (g10 : SS → Int32 → Option (Unit × SS)) (hg10 : ∀ (σ : SS) (x1 : Int32), g10 σ x1 = some (r, σ') → At p l e 1 24 s m args below meth c D (mw ad cy) (mas ad) cy (none) σ' 4 10 [(0, .ref (ad 0)), (1, .int x1)] [] σ) : ∀ (σ : SS) (x1 : Int32) (x2 : Int32), f_m_X12_findContexts_106 g10 σ x1 x2 = some (r, σ') → At p l e 1 24 s m args below meth c D (mw ad cy) (mas ad) cy (none) σ' 4 106 [(0, .ref (ad 0)), (1, .int x1), (2, .int x2)] [] σ := by
  intro σ x1 x2 hf H locs ls hG hl
  unfold f_m_X12_findContexts_106 at hf
  refine lv_aload_n E.1 E.2.1 dX12_findContexts_106 rfl (lv_at hl 0 rfl) ?_
  refine fg_m_X12_22_0 E hG dX12_findContexts_107 ?_
  refine lv_iload_n E.1 E.2.1 dX12_findContexts_110 rfl (lv_at hl 2 rfl) ?_
  refine lv_dup2_11 E.1 E.2.1 dX12_findContexts_111 rfl rfl ?_
  obtain ⟨hin, hf⟩ := gd_some hf
  refine al_m_5 E hG hin dX12_findContexts_112 ?_
  refine lv_iconst (v := (1 : Int32)) E.1 E.2.1 dX12_findContexts_113 (by decide) ?_
  refine lv_iadd E.1 E.2.1 dX12_findContexts_114 ?_
  obtain ⟨hin, hf⟩ := gd_some hf
  refine as_m_5 E hG hin dX12_findContexts_115 (fun H locs hG => ?_)
  refine lv_aload_n E.1 E.2.1 dX12_findContexts_116 rfl (lv_at hl 0 rfl) ?_
  refine fg_m_X12_19_0 E hG dX12_findContexts_117 ?_
  refine lv_bipush (v := (16 : Int32)) E.1 E.2.1 dX12_findContexts_120 (by decide) ?_
  refine lv_iload_n E.1 E.2.1 dX12_findContexts_122 rfl (lv_at hl 2 rfl) ?_
  refine lv_imul E.1 E.2.1 dX12_findContexts_123 ?_
  refine lv_aload_n E.1 E.2.1 dX12_findContexts_124 rfl (lv_at hl 0 rfl) ?_
  refine fg_m_X12_7_0 E hG dX12_findContexts_125 ?_
  refine lv_iload_n E.1 E.2.1 dX12_findContexts_128 rfl (lv_at hl 1 rfl) ?_
  obtain ⟨hin, hf⟩ := gd_some hf
  refine al_m_1 E hG hin dX12_findContexts_129 ?_
  refine lv_iadd E.1 E.2.1 dX12_findContexts_130 ?_
  refine lv_dup2_11 E.1 E.2.1 dX12_findContexts_131 rfl rfl ?_
  obtain ⟨hin, hf⟩ := gd_some hf
  refine al_m_4 E hG hin dX12_findContexts_132 ?_
  refine lv_iconst (v := (1 : Int32)) E.1 E.2.1 dX12_findContexts_133 (by decide) ?_
  refine lv_iadd E.1 E.2.1 dX12_findContexts_134 ?_
  obtain ⟨hin, hf⟩ := gd_some hf
  refine as_m_4 E hG hin dX12_findContexts_135 (fun H locs hG => ?_)
  refine lv_iinc (v := (x1 + (1 : Int32))) (lv' := [(1, .int (x1 + (1 : Int32))), (0, .ref (ad 0)), (2, .int x2)]) E.1 E.2.1 dX12_findContexts_136 hl (k := 1) rfl rfl (by decide) rfl (fun ls hl => ?_)
  refine lv_goto (tgt := 10) E.1 E.2.1 dX12_findContexts_139 (by decide) ?_
  exact hg10 _ _ hf _ _ _ hG (lv_sub hl [1, 0] rfl)

set_option maxHeartbeats 4000000 in
set_option maxRecDepth 100000 in
theorem k_m_X12_findContexts_72 {p : Program} {l : Launch} {e : Env} {s : State} {m : MethodId} {args : Array Value} {below : List Frame} {meth : Method} {c : Code} {D : va_G} {ad : Nat → Nat} {cy : ClassId} {r : Unit} {σ' : SS} (E : CallFix p m c cX12_findContexts 4 s args TT yX12_findContexts.cls) (hr : meth.sig.returnType = none) (hlk : meth.locks = false) (g10 : SS → Int32 → Option (Unit × SS)) (hg10 : ∀ (σ : SS) (x1 : Int32), g10 σ x1 = some (r, σ') → At p l e 1 24 s m args below meth c D (mw ad cy) (mas ad) cy (none) σ' 4 10 [(0, .ref (ad 0)), (1, .int x1)] [] σ) (g72 : SS → Int32 → Int32 → Int32 → Option (Unit × SS)) (hg72 : ∀ (σ : SS) (x1 : Int32) (x2 : Int32) (x3 : Int32), g72 σ x1 x2 x3 = some (r, σ') → At p l e 1 24 s m args below meth c D (mw ad cy) (mas ad) cy (none) σ' 4 72 [(0, .ref (ad 0)), (1, .int x1), (2, .int x2), (3, .int x3)] [] σ) : ∀ (σ : SS) (x1 : Int32) (x2 : Int32) (x3 : Int32), f_m_X12_findContexts_72 g10 g72 σ x1 x2 x3 = some (r, σ') → At p l e 1 24 s m args below meth c D (mw ad cy) (mas ad) cy (none) σ' 4 72 [(0, .ref (ad 0)), (1, .int x1), (2, .int x2), (3, .int x3)] [] σ := by
  intro σ x1 x2 x3 hf H locs ls hG hl
  unfold f_m_X12_findContexts_72 at hf
  refine lv_iload_n E.1 E.2.1 dX12_findContexts_72 rfl (lv_at hl 3 rfl) ?_
  refine lv_bipush (v := (16 : Int32)) E.1 E.2.1 dX12_findContexts_73 (by decide) ?_
  refine lv_icmp_ge (tgt := 96) E.1 E.2.1 dX12_findContexts_75 (by decide) (fun hc => ?_) (fun hc => ?_)
  · replace hf := (if_pos hc).symm.trans hf
    refine lv_aload_n E.1 E.2.1 dX12_findContexts_96 rfl (lv_at hl 0 rfl) ?_
    refine lv_dup E.1 E.2.1 dX12_findContexts_97 rfl ?_
    refine fg_m_X12_78_0 E hG dX12_findContexts_98 ?_
    refine lv_iconst (v := (1 : Int32)) E.1 E.2.1 dX12_findContexts_101 (by decide) ?_
    refine lv_iadd E.1 E.2.1 dX12_findContexts_102 ?_
    refine fp_m_X12_78_0 E hG dX12_findContexts_103 (fun H locs hG => ?_)
    exact k_m_X12_findContexts_106 E hr hlk g10 hg10 _ _ _ hf _ _ _ hG (lv_sub hl [0, 1, 2] rfl)
  · replace hf := (if_neg hc).symm.trans hf
    refine lv_aload_n E.1 E.2.1 dX12_findContexts_78 rfl (lv_at hl 0 rfl) ?_
    refine fg_m_X12_19_0 E hG dX12_findContexts_79 ?_
    refine lv_bipush (v := (16 : Int32)) E.1 E.2.1 dX12_findContexts_82 (by decide) ?_
    refine lv_iload_n E.1 E.2.1 dX12_findContexts_84 rfl (lv_at hl 2 rfl) ?_
    refine lv_imul E.1 E.2.1 dX12_findContexts_85 ?_
    refine lv_iload_n E.1 E.2.1 dX12_findContexts_86 rfl (lv_at hl 3 rfl) ?_
    refine lv_iadd E.1 E.2.1 dX12_findContexts_87 ?_
    refine lv_iconst (v := (0 : Int32)) E.1 E.2.1 dX12_findContexts_88 (by decide) ?_
    obtain ⟨hin, hf⟩ := gd_some hf
    refine as_m_4 E hG hin dX12_findContexts_89 (fun H locs hG => ?_)
    refine lv_iinc (v := (x3 + (1 : Int32))) (lv' := [(3, .int (x3 + (1 : Int32))), (0, .ref (ad 0)), (1, .int x1), (2, .int x2)]) E.1 E.2.1 dX12_findContexts_90 hl (k := 3) rfl rfl (by decide) rfl (fun ls hl => ?_)
    refine lv_goto (tgt := 72) E.1 E.2.1 dX12_findContexts_93 (by decide) ?_
    exact hg72 _ _ _ _ hf _ _ _ hG (lv_sub hl [1, 2, 3, 0] rfl)

set_option maxHeartbeats 4000000 in
set_option maxRecDepth 100000 in
theorem k_m_X12_findContexts_48 {p : Program} {l : Launch} {e : Env} {s : State} {m : MethodId} {args : Array Value} {below : List Frame} {meth : Method} {c : Code} {D : va_G} {ad : Nat → Nat} {cy : ClassId} {r : Unit} {σ' : SS} (E : CallFix p m c cX12_findContexts 4 s args TT yX12_findContexts.cls) (hr : meth.sig.returnType = none) (hlk : meth.locks = false) (g10 : SS → Int32 → Option (Unit × SS)) (hg10 : ∀ (σ : SS) (x1 : Int32), g10 σ x1 = some (r, σ') → At p l e 1 24 s m args below meth c D (mw ad cy) (mas ad) cy (none) σ' 4 10 [(0, .ref (ad 0)), (1, .int x1)] [] σ) : ∀ (σ : SS) (x1 : Int32) (x2 : Int32), f_m_X12_findContexts_48 g10 σ x1 x2 = some (r, σ') → At p l e 1 24 s m args below meth c D (mw ad cy) (mas ad) cy (none) σ' 4 48 [(0, .ref (ad 0)), (1, .int x1), (2, .int x2)] [] σ := by
  intro σ x1 x2 hf H locs ls hG hl
  unfold f_m_X12_findContexts_48 at hf
  refine lv_iload_n E.1 E.2.1 dX12_findContexts_48 rfl (lv_at hl 2 rfl) ?_
  refine lv_aload_n E.1 E.2.1 dX12_findContexts_49 rfl (lv_at hl 0 rfl) ?_
  refine fg_m_X12_78_0 E hG dX12_findContexts_50 ?_
  refine lv_icmp_ne (tgt := 106) E.1 E.2.1 dX12_findContexts_53 (by decide) (fun hc => ?_) (fun hc => ?_)
  · replace hf := (if_neg hc).symm.trans hf
    exact k_m_X12_findContexts_106 E hr hlk g10 hg10 _ _ _ hf _ _ _ hG (lv_sub hl [0, 1, 2] rfl)
  · replace hf := (if_pos hc).symm.trans hf
    refine lv_aload_n E.1 E.2.1 dX12_findContexts_56 rfl (lv_at hl 0 rfl) ?_
    refine fg_m_X12_16_0 E hG dX12_findContexts_57 ?_
    refine lv_iload_n E.1 E.2.1 dX12_findContexts_60 rfl (lv_at hl 2 rfl) ?_
    refine lv_iload_n E.1 E.2.1 dX12_findContexts_61 rfl (lv_at hl 1 rfl) ?_
    obtain ⟨hin, hf⟩ := gd_some hf
    refine as_m_3 E hG hin dX12_findContexts_62 (fun H locs hG => ?_)
    refine lv_aload_n E.1 E.2.1 dX12_findContexts_63 rfl (lv_at hl 0 rfl) ?_
    refine fg_m_X12_22_0 E hG dX12_findContexts_64 ?_
    refine lv_iload_n E.1 E.2.1 dX12_findContexts_67 rfl (lv_at hl 2 rfl) ?_
    refine lv_iconst (v := (0 : Int32)) E.1 E.2.1 dX12_findContexts_68 (by decide) ?_
    obtain ⟨hin, hf⟩ := gd_some hf
    refine as_m_5 E hG hin dX12_findContexts_69 (fun H locs hG => ?_)
    refine lv_iconst (v := (0 : Int32)) E.1 E.2.1 dX12_findContexts_70 (by decide) ?_
    refine lv_istore_n (lv' := [(3, .int (0 : Int32)), (0, .ref (ad 0)), (1, .int x1), (2, .int x2)]) E.1 E.2.1 dX12_findContexts_71 rfl hl (by decide) rfl (fun ls hl => ?_)
    exact L3_at (P := fun σ x1 x2 x3 => At p l e 1 24 s m args below meth c D (mw ad cy) (mas ad) cy (none) σ' 4 72 [(0, .ref (ad 0)), (1, .int x1), (2, .int x2), (3, .int x3)] [] σ) (fun g hg => k_m_X12_findContexts_72 E hr hlk g10 hg10 g hg) FUEL _ _ _ _ hf _ _ _ hG (lv_sub hl [1, 2, 3, 0] rfl)

set_option maxHeartbeats 4000000 in
set_option maxRecDepth 100000 in
theorem k_m_X12_findContexts_20 {p : Program} {l : Launch} {e : Env} {s : State} {m : MethodId} {args : Array Value} {below : List Frame} {meth : Method} {c : Code} {D : va_G} {ad : Nat → Nat} {cy : ClassId} {r : Unit} {σ' : SS} (E : CallFix p m c cX12_findContexts 4 s args TT yX12_findContexts.cls) (hr : meth.sig.returnType = none) (hlk : meth.locks = false) (g10 : SS → Int32 → Option (Unit × SS)) (hg10 : ∀ (σ : SS) (x1 : Int32), g10 σ x1 = some (r, σ') → At p l e 1 24 s m args below meth c D (mw ad cy) (mas ad) cy (none) σ' 4 10 [(0, .ref (ad 0)), (1, .int x1)] [] σ) (g20 : SS → Int32 → Int32 → Option (Unit × SS)) (hg20 : ∀ (σ : SS) (x1 : Int32) (x2 : Int32), g20 σ x1 x2 = some (r, σ') → At p l e 1 24 s m args below meth c D (mw ad cy) (mas ad) cy (none) σ' 4 20 [(0, .ref (ad 0)), (1, .int x1), (2, .int x2)] [] σ) : ∀ (σ : SS) (x1 : Int32) (x2 : Int32), f_m_X12_findContexts_20 g10 g20 σ x1 x2 = some (r, σ') → At p l e 1 24 s m args below meth c D (mw ad cy) (mas ad) cy (none) σ' 4 20 [(0, .ref (ad 0)), (1, .int x1), (2, .int x2)] [] σ := by
  intro σ x1 x2 hf H locs ls hG hl
  unfold f_m_X12_findContexts_20 at hf
  refine lv_iload_n E.1 E.2.1 dX12_findContexts_20 rfl (lv_at hl 2 rfl) ?_
  refine lv_aload_n E.1 E.2.1 dX12_findContexts_21 rfl (lv_at hl 0 rfl) ?_
  refine fg_m_X12_78_0 E hG dX12_findContexts_22 ?_
  refine lv_icmp_ge (tgt := 48) E.1 E.2.1 dX12_findContexts_25 (by decide) (fun hc => ?_) (fun hc => ?_)
  · replace hf := (if_pos hc).symm.trans hf
    exact k_m_X12_findContexts_48 E hr hlk g10 hg10 _ _ _ hf _ _ _ hG (lv_sub hl [0, 1, 2] rfl)
  · replace hf := (if_neg hc).symm.trans hf
    refine lv_aload_n E.1 E.2.1 dX12_findContexts_28 rfl (lv_at hl 0 rfl) ?_
    refine lv_aload_n E.1 E.2.1 dX12_findContexts_29 rfl (lv_at hl 0 rfl) ?_
    refine fg_m_X12_16_0 E hG dX12_findContexts_30 ?_
    refine lv_iload_n E.1 E.2.1 dX12_findContexts_33 rfl (lv_at hl 2 rfl) ?_
    obtain ⟨hin, hf⟩ := gd_some hf
    refine al_m_3 E hG hin dX12_findContexts_34 ?_
    refine lv_iload_n E.1 E.2.1 dX12_findContexts_35 rfl (lv_at hl 1 rfl) ?_
    obtain ⟨r36, σ36, hcl, hf⟩ := bd_some hf
    refine cl_V (rest := []) (st1 := [.int r36]) (As := [.int (σ.2 2 (Int32.toNatClampNeg x2)), .int x1]) E hG (c_m_X12_isSameAhead hcl) Wd_857 mi_X12_isSameAhead ⟨Nat.le_of_ble_eq_true rfl, Nat.le_of_ble_eq_true rfl, Nat.zero_le _, Nat.zero_le _⟩ 13 0 rfl rfl rfl hl.1 rfl (Nat.le_of_ble_eq_true rfl) dX12_findContexts_36 rfl (fun H locs hG => ?_)
    refine lv_if_ne (tgt := 48) E.1 E.2.1 dX12_findContexts_39 (by decide) (fun hc => ?_) (fun hc => ?_)
    · replace hf := (if_neg hc).symm.trans hf
      exact k_m_X12_findContexts_48 E hr hlk g10 hg10 _ _ _ hf _ _ _ hG (lv_sub hl [0, 1, 2] rfl)
    · replace hf := (if_pos hc).symm.trans hf
      refine lv_iinc (v := (x2 + (1 : Int32))) (lv' := [(2, .int (x2 + (1 : Int32))), (0, .ref (ad 0)), (1, .int x1)]) E.1 E.2.1 dX12_findContexts_42 hl (k := 2) rfl rfl (by decide) rfl (fun ls hl => ?_)
      refine lv_goto (tgt := 20) E.1 E.2.1 dX12_findContexts_45 (by decide) ?_
      exact hg20 _ _ _ hf _ _ _ hG (lv_sub hl [1, 2, 0] rfl)

set_option maxHeartbeats 4000000 in
set_option maxRecDepth 100000 in
theorem k_m_X12_findContexts_10 {p : Program} {l : Launch} {e : Env} {s : State} {m : MethodId} {args : Array Value} {below : List Frame} {meth : Method} {c : Code} {D : va_G} {ad : Nat → Nat} {cy : ClassId} {r : Unit} {σ' : SS} (E : CallFix p m c cX12_findContexts 4 s args TT yX12_findContexts.cls) (hr : meth.sig.returnType = none) (hlk : meth.locks = false) (g10 : SS → Int32 → Option (Unit × SS)) (hg10 : ∀ (σ : SS) (x1 : Int32), g10 σ x1 = some (r, σ') → At p l e 1 24 s m args below meth c D (mw ad cy) (mas ad) cy (none) σ' 4 10 [(0, .ref (ad 0)), (1, .int x1)] [] σ) : ∀ (σ : SS) (x1 : Int32), f_m_X12_findContexts_10 g10 σ x1 = some (r, σ') → At p l e 1 24 s m args below meth c D (mw ad cy) (mas ad) cy (none) σ' 4 10 [(0, .ref (ad 0)), (1, .int x1)] [] σ := by
  intro σ x1 hf H locs ls hG hl
  unfold f_m_X12_findContexts_10 at hf
  refine lv_iload_n E.1 E.2.1 dX12_findContexts_10 rfl (lv_at hl 1 rfl) ?_
  refine lv_aload_n E.1 E.2.1 dX12_findContexts_11 rfl (lv_at hl 0 rfl) ?_
  refine fg_m_X12_72_0 E hG dX12_findContexts_12 ?_
  refine lv_icmp_ge (tgt := 142) E.1 E.2.1 dX12_findContexts_15 (by decide) (fun hc => ?_) (fun hc => ?_)
  · replace hf := (if_pos hc).symm.trans hf
    exact r_v E hr hlk hG hf dX12_findContexts_142
  · replace hf := (if_neg hc).symm.trans hf
    refine lv_iconst (v := (0 : Int32)) E.1 E.2.1 dX12_findContexts_18 (by decide) ?_
    refine lv_istore_n (lv' := [(2, .int (0 : Int32)), (0, .ref (ad 0)), (1, .int x1)]) E.1 E.2.1 dX12_findContexts_19 rfl hl (by decide) rfl (fun ls hl => ?_)
    exact L2_at (P := fun σ x1 x2 => At p l e 1 24 s m args below meth c D (mw ad cy) (mas ad) cy (none) σ' 4 20 [(0, .ref (ad 0)), (1, .int x1), (2, .int x2)] [] σ) (fun g hg => k_m_X12_findContexts_20 E hr hlk g10 hg10 g hg) FUEL _ _ _ hf _ _ _ hG (lv_sub hl [1, 2, 0] rfl)

set_option maxHeartbeats 4000000 in
set_option maxRecDepth 100000 in
theorem c_m_X12_findContexts {l : Launch} {D : va_G} {ad : Nat → Nat} {cy : ClassId} {σ : SS} {r : Unit} {σ' : SS} (hf : f_m_X12_findContexts σ = some (r, σ')) : Ctr l D (mw ad cy) (mas ad) cy yX12_findContexts cX12_findContexts 4 none 1 24 [.ref (ad 0)] σ (none) σ' := by
  refine Ctr.of (mw_as ad cy) rfl (Nat.le_of_ble_eq_true rfl) (fun p e s m args below meth c ls E hr hlk hl hG => ?_)
  have hl : lv_has ls 4 [(0, .ref (ad 0))] := hl
  unfold f_m_X12_findContexts at hf
  refine lv_aload_n E.1 E.2.1 dX12_findContexts_0 rfl (lv_at hl 0 rfl) ?_
  refine lv_iconst (v := (0 : Int32)) E.1 E.2.1 dX12_findContexts_1 (by decide) ?_
  refine fp_m_X12_78_0 E hG dX12_findContexts_2 (fun H locs hG => ?_)
  refine lv_aload_n E.1 E.2.1 dX12_findContexts_5 rfl (lv_at hl 0 rfl) ?_
  refine fg_m_X12_75_0 E hG dX12_findContexts_6 ?_
  refine lv_istore_n (lv' := [(1, .int ((putI σ 3 (0 : Int32)).1 2)), (0, .ref (ad 0))]) E.1 E.2.1 dX12_findContexts_9 rfl hl (by decide) rfl (fun ls hl => ?_)
  exact L1_at (P := fun σ x1 => At p l e 1 24 s m args below meth c D (mw ad cy) (mas ad) cy (none) σ' 4 10 [(0, .ref (ad 0)), (1, .int x1)] [] σ) (fun g hg => k_m_X12_findContexts_10 E hr hlk g hg) FUEL _ _ hf _ _ _ hG (lv_sub hl [1, 0] rfl)

set_option maxHeartbeats 4000000 in
set_option maxRecDepth 100000 in
theorem c_m_X12_order {l : Launch} {D : va_G} {ad : Nat → Nat} {cy : ClassId} {σ : SS} {x1 : Int32} {r : Int32} {σ' : SS} (hf : f_m_X12_order σ x1 = some (r, σ')) : Ctr l D (mw ad cy) (mas ad) cy yX12_order cX12_order 2 (some FieldType.int) 2 47 [.ref (ad 0), .int x1] σ (some (.int r)) σ' := by
  refine Ctr.of (mw_as ad cy) rfl (Nat.le_of_ble_eq_true rfl) (fun p e s m args below meth c ls E hr hlk hl hG => ?_)
  have hl : lv_has ls 2 [(0, .ref (ad 0)), (1, .int x1)] := hl
  unfold f_m_X12_order at hf
  refine lv_aload_n E.1 E.2.1 dX12_order_0 rfl (lv_at hl 0 rfl) ?_
  refine lv_iconst (v := (0 : Int32)) E.1 E.2.1 dX12_order_1 (by decide) ?_
  refine fp_m_X12_59_0 E hG dX12_order_2 (fun H locs hG => ?_)
  refine lv_iload_n E.1 E.2.1 dX12_order_5 rfl (lv_at hl 1 rfl) ?_
  refine lv_i2l E.1 E.2.1 dX12_order_6 rfl ?_
  refine lv_lconst (v := (0 : Int64)) E.1 E.2.1 dX12_order_7 (by decide) ?_
  refine lv_ldc2 E.1 E.2.1 E.2.2.2.1 (E.2.2.2.2 _ Wd_852) dX12_order_8 ?_
  obtain ⟨r11, σ11, hcl, hf⟩ := bd_some hf
  refine cl_S (rest := []) (st1 := [.int r11]) (As := [.long (Int32.toInt64 x1), .long (0 : Int64), .long (3 : Int64)]) E hG (c_m_X12_in hcl) Wd_837 mi_X12_in ⟨Nat.le_of_ble_eq_true rfl, Nat.le_of_ble_eq_true rfl, Nat.zero_le _, Nat.zero_le _⟩ rfl hl.1 rfl (Nat.le_of_ble_eq_true rfl) dX12_order_11 rfl (fun H locs hG => ?_)
  refine lv_if_ne (tgt := 19) E.1 E.2.1 dX12_order_14 (by decide) (fun hc => ?_) (fun hc => ?_)
  · replace hf := (if_neg hc).symm.trans hf
    refine lv_aload_n E.1 E.2.1 dX12_order_19 rfl (lv_at hl 0 rfl) ?_
    refine lv_iload_n E.1 E.2.1 dX12_order_20 rfl (lv_at hl 1 rfl) ?_
    refine fp_m_X12_75_0 E hG dX12_order_21 (fun H locs hG => ?_)
    refine lv_aload_n E.1 E.2.1 dX12_order_24 rfl (lv_at hl 0 rfl) ?_
    obtain ⟨r25, σ25, hcl, hf⟩ := bd_some hf
    refine cl_V (rest := []) (st1 := []) (As := []) E hG (c_m_X12_findContexts hcl) Wd_853 mi_X12_findContexts ⟨Nat.le_of_ble_eq_true rfl, Nat.le_of_ble_eq_true rfl, Nat.zero_le _, Nat.zero_le _⟩ 13 0 rfl rfl rfl hl.1 rfl (Nat.le_of_ble_eq_true rfl) dX12_order_25 rfl (fun H locs hG => ?_)
    refine lv_aload_n E.1 E.2.1 dX12_order_28 rfl (lv_at hl 0 rfl) ?_
    refine fg_m_X12_78_0 E hG dX12_order_29 ?_
    exact r_i E hr hlk hG hf dX12_order_32
  · replace hf := (if_pos hc).symm.trans hf
    refine lv_iconst (v := (-1 : Int32)) E.1 E.2.1 dX12_order_17 (by decide) ?_
    exact r_i E hr hlk hG hf dX12_order_18

set_option maxHeartbeats 4000000 in
set_option maxRecDepth 100000 in
theorem c_m_X12_context {l : Launch} {D : va_G} {ad : Nat → Nat} {cy : ClassId} {σ : SS} {x1 : Int32} {x2 : Int32} {r : Int32} {σ' : SS} (hf : f_m_X12_context σ x1 x2 = some (r, σ')) : Ctr l D (mw ad cy) (mas ad) cy yX12_context cX12_context 3 (some FieldType.int) 2 47 [.ref (ad 0), .int x1, .int x2] σ (some (.int r)) σ' := by
  refine Ctr.of (mw_as ad cy) rfl (Nat.le_of_ble_eq_true rfl) (fun p e s m args below meth c ls E hr hlk hl hG => ?_)
  have hl : lv_has ls 3 [(0, .ref (ad 0)), (1, .int x1), (2, .int x2)] := hl
  unfold f_m_X12_context at hf
  refine lv_aload_n E.1 E.2.1 dX12_context_0 rfl (lv_at hl 0 rfl) ?_
  refine lv_iconst (v := (0 : Int32)) E.1 E.2.1 dX12_context_1 (by decide) ?_
  refine fp_m_X12_59_0 E hG dX12_context_2 (fun H locs hG => ?_)
  refine lv_aload_n E.1 E.2.1 dX12_context_5 rfl (lv_at hl 0 rfl) ?_
  obtain ⟨r6, σ6, hcl, hf⟩ := bd_some hf
  refine cl_V (rest := []) (st1 := []) (As := []) E hG (c_m_X12_findContexts hcl) Wd_853 mi_X12_findContexts ⟨Nat.le_of_ble_eq_true rfl, Nat.le_of_ble_eq_true rfl, Nat.zero_le _, Nat.zero_le _⟩ 13 0 rfl rfl rfl hl.1 rfl (Nat.le_of_ble_eq_true rfl) dX12_context_6 rfl (fun H locs hG => ?_)
  refine lv_iload_n E.1 E.2.1 dX12_context_9 rfl (lv_at hl 1 rfl) ?_
  refine lv_i2l E.1 E.2.1 dX12_context_10 rfl ?_
  refine lv_lconst (v := (0 : Int64)) E.1 E.2.1 dX12_context_11 (by decide) ?_
  refine lv_aload_n E.1 E.2.1 dX12_context_12 rfl (lv_at hl 0 rfl) ?_
  refine fg_m_X12_78_0 E hG dX12_context_13 ?_
  refine lv_iconst (v := (1 : Int32)) E.1 E.2.1 dX12_context_16 (by decide) ?_
  refine lv_isub E.1 E.2.1 dX12_context_17 ?_
  refine lv_i2l E.1 E.2.1 dX12_context_18 rfl ?_
  obtain ⟨r19, σ19, hcl, hf⟩ := bd_some hf
  refine cl_S (rest := []) (st1 := [.int r19]) (As := [.long (Int32.toInt64 x1), .long (0 : Int64), .long (Int32.toInt64 ((σ6.1 3) - (1 : Int32)))]) E hG (c_m_X12_in hcl) Wd_837 mi_X12_in ⟨Nat.le_of_ble_eq_true rfl, Nat.le_of_ble_eq_true rfl, Nat.zero_le _, Nat.zero_le _⟩ rfl hl.1 rfl (Nat.le_of_ble_eq_true rfl) dX12_context_19 rfl (fun H locs hG => ?_)
  refine lv_if_eq (tgt := 62) E.1 E.2.1 dX12_context_22 (by decide) (fun hc => ?_) (fun hc => ?_)
  · replace hf := (if_pos hc).symm.trans hf
    refine lv_iconst (v := (-1 : Int32)) E.1 E.2.1 dX12_context_62 (by decide) ?_
    exact r_i E hr hlk hG hf dX12_context_63
  · replace hf := (if_neg hc).symm.trans hf
    refine lv_iload_n E.1 E.2.1 dX12_context_25 rfl (lv_at hl 2 rfl) ?_
    refine lv_i2l E.1 E.2.1 dX12_context_26 rfl ?_
    refine lv_lconst (v := (0 : Int64)) E.1 E.2.1 dX12_context_27 (by decide) ?_
    refine lv_aload_n E.1 E.2.1 dX12_context_28 rfl (lv_at hl 0 rfl) ?_
    refine fg_m_X12_75_0 E hG dX12_context_29 ?_
    refine lv_iconst (v := (1 : Int32)) E.1 E.2.1 dX12_context_32 (by decide) ?_
    refine lv_isub E.1 E.2.1 dX12_context_33 ?_
    refine lv_i2l E.1 E.2.1 dX12_context_34 rfl ?_
    obtain ⟨r35, σ35, hcl, hf⟩ := bd_some hf
    refine cl_S (rest := []) (st1 := [.int r35]) (As := [.long (Int32.toInt64 x2), .long (0 : Int64), .long (Int32.toInt64 ((σ19.1 2) - (1 : Int32)))]) E hG (c_m_X12_in hcl) Wd_837 mi_X12_in ⟨Nat.le_of_ble_eq_true rfl, Nat.le_of_ble_eq_true rfl, Nat.zero_le _, Nat.zero_le _⟩ rfl hl.1 rfl (Nat.le_of_ble_eq_true rfl) dX12_context_35 rfl (fun H locs hG => ?_)
    refine lv_if_eq (tgt := 62) E.1 E.2.1 dX12_context_38 (by decide) (fun hc => ?_) (fun hc => ?_)
    · replace hf := (if_pos hc).symm.trans hf
      refine lv_iconst (v := (-1 : Int32)) E.1 E.2.1 dX12_context_62 (by decide) ?_
      exact r_i E hr hlk hG hf dX12_context_63
    · replace hf := (if_neg hc).symm.trans hf
      refine lv_aload_n E.1 E.2.1 dX12_context_41 rfl (lv_at hl 0 rfl) ?_
      refine fg_m_X12_7_0 E hG dX12_context_42 ?_
      refine lv_aload_n E.1 E.2.1 dX12_context_45 rfl (lv_at hl 0 rfl) ?_
      refine fg_m_X12_16_0 E hG dX12_context_46 ?_
      refine lv_iload_n E.1 E.2.1 dX12_context_49 rfl (lv_at hl 1 rfl) ?_
      obtain ⟨hin, hf⟩ := gd_some hf
      refine al_m_3 E hG hin dX12_context_50 ?_
      refine lv_aload_n E.1 E.2.1 dX12_context_51 rfl (lv_at hl 0 rfl) ?_
      refine fg_m_X12_75_0 E hG dX12_context_52 ?_
      refine lv_isub E.1 E.2.1 dX12_context_55 ?_
      refine lv_iload_n E.1 E.2.1 dX12_context_56 rfl (lv_at hl 2 rfl) ?_
      refine lv_iadd E.1 E.2.1 dX12_context_57 ?_
      obtain ⟨hin, hf⟩ := gd_some hf
      refine al_m_1 E hG hin dX12_context_58 ?_
      refine lv_goto (tgt := 63) E.1 E.2.1 dX12_context_59 (by decide) ?_
      exact r_i E hr hlk hG hf dX12_context_63

set_option maxHeartbeats 4000000 in
set_option maxRecDepth 100000 in
theorem c_m_X12_count {l : Launch} {D : va_G} {ad : Nat → Nat} {cy : ClassId} {σ : SS} {x1 : Int32} {x2 : Int32} {r : Int32} {σ' : SS} (hf : f_m_X12_count σ x1 x2 = some (r, σ')) : Ctr l D (mw ad cy) (mas ad) cy yX12_count cX12_count 3 (some FieldType.int) 2 47 [.ref (ad 0), .int x1, .int x2] σ (some (.int r)) σ' := by
  refine Ctr.of (mw_as ad cy) rfl (Nat.le_of_ble_eq_true rfl) (fun p e s m args below meth c ls E hr hlk hl hG => ?_)
  have hl : lv_has ls 3 [(0, .ref (ad 0)), (1, .int x1), (2, .int x2)] := hl
  unfold f_m_X12_count at hf
  refine lv_aload_n E.1 E.2.1 dX12_count_0 rfl (lv_at hl 0 rfl) ?_
  refine lv_iconst (v := (0 : Int32)) E.1 E.2.1 dX12_count_1 (by decide) ?_
  refine fp_m_X12_59_0 E hG dX12_count_2 (fun H locs hG => ?_)
  refine lv_aload_n E.1 E.2.1 dX12_count_5 rfl (lv_at hl 0 rfl) ?_
  obtain ⟨r6, σ6, hcl, hf⟩ := bd_some hf
  refine cl_V (rest := []) (st1 := []) (As := []) E hG (c_m_X12_findContexts hcl) Wd_853 mi_X12_findContexts ⟨Nat.le_of_ble_eq_true rfl, Nat.le_of_ble_eq_true rfl, Nat.zero_le _, Nat.zero_le _⟩ 13 0 rfl rfl rfl hl.1 rfl (Nat.le_of_ble_eq_true rfl) dX12_count_6 rfl (fun H locs hG => ?_)
  refine lv_iload_n E.1 E.2.1 dX12_count_9 rfl (lv_at hl 1 rfl) ?_
  refine lv_i2l E.1 E.2.1 dX12_count_10 rfl ?_
  refine lv_lconst (v := (0 : Int64)) E.1 E.2.1 dX12_count_11 (by decide) ?_
  refine lv_aload_n E.1 E.2.1 dX12_count_12 rfl (lv_at hl 0 rfl) ?_
  refine fg_m_X12_78_0 E hG dX12_count_13 ?_
  refine lv_iconst (v := (1 : Int32)) E.1 E.2.1 dX12_count_16 (by decide) ?_
  refine lv_isub E.1 E.2.1 dX12_count_17 ?_
  refine lv_i2l E.1 E.2.1 dX12_count_18 rfl ?_
  obtain ⟨r19, σ19, hcl, hf⟩ := bd_some hf
  refine cl_S (rest := []) (st1 := [.int r19]) (As := [.long (Int32.toInt64 x1), .long (0 : Int64), .long (Int32.toInt64 ((σ6.1 3) - (1 : Int32)))]) E hG (c_m_X12_in hcl) Wd_837 mi_X12_in ⟨Nat.le_of_ble_eq_true rfl, Nat.le_of_ble_eq_true rfl, Nat.zero_le _, Nat.zero_le _⟩ rfl hl.1 rfl (Nat.le_of_ble_eq_true rfl) dX12_count_19 rfl (fun H locs hG => ?_)
  refine lv_if_eq (tgt := 39) E.1 E.2.1 dX12_count_22 (by decide) (fun hc => ?_) (fun hc => ?_)
  · replace hf := (if_pos hc).symm.trans hf
    refine lv_iconst (v := (-1 : Int32)) E.1 E.2.1 dX12_count_39 (by decide) ?_
    exact r_i E hr hlk hG hf dX12_count_40
  · replace hf := (if_neg hc).symm.trans hf
    refine lv_iload_n E.1 E.2.1 dX12_count_25 rfl (lv_at hl 2 rfl) ?_
    refine lv_i2l E.1 E.2.1 dX12_count_26 rfl ?_
    refine lv_ldc2 E.1 E.2.1 E.2.2.2.1 (E.2.2.2.2 _ Wd_869) dX12_count_27 ?_
    refine lv_ldc2 E.1 E.2.1 E.2.2.2.1 (E.2.2.2.2 _ Wd_836) dX12_count_30 ?_
    obtain ⟨r33, σ33, hcl, hf⟩ := bd_some hf
    refine cl_S (rest := []) (st1 := [.int r33]) (As := [.long (Int32.toInt64 x2), .long (-1 : Int64), .long (15 : Int64)]) E hG (c_m_X12_in hcl) Wd_837 mi_X12_in ⟨Nat.le_of_ble_eq_true rfl, Nat.le_of_ble_eq_true rfl, Nat.zero_le _, Nat.zero_le _⟩ rfl hl.1 rfl (Nat.le_of_ble_eq_true rfl) dX12_count_33 rfl (fun H locs hG => ?_)
    refine lv_if_ne (tgt := 41) E.1 E.2.1 dX12_count_36 (by decide) (fun hc => ?_) (fun hc => ?_)
    · replace hf := (if_neg hc).symm.trans hf
      refine lv_iload_n E.1 E.2.1 dX12_count_41 rfl (lv_at hl 2 rfl) ?_
      refine lv_if_ge (tgt := 54) E.1 E.2.1 dX12_count_42 (by decide) (fun hc => ?_) (fun hc => ?_)
      · replace hf := (if_pos hc).symm.trans hf
        refine lv_aload_n E.1 E.2.1 dX12_count_54 rfl (lv_at hl 0 rfl) ?_
        refine fg_m_X12_19_0 E hG dX12_count_55 ?_
        refine lv_bipush (v := (16 : Int32)) E.1 E.2.1 dX12_count_58 (by decide) ?_
        refine lv_iload_n E.1 E.2.1 dX12_count_60 rfl (lv_at hl 1 rfl) ?_
        refine lv_imul E.1 E.2.1 dX12_count_61 ?_
        refine lv_iload_n E.1 E.2.1 dX12_count_62 rfl (lv_at hl 2 rfl) ?_
        refine lv_iadd E.1 E.2.1 dX12_count_63 ?_
        obtain ⟨hin, hf⟩ := gd_some hf
        refine al_m_4 E hG hin dX12_count_64 ?_
        exact r_i E hr hlk hG hf dX12_count_65
      · replace hf := (if_neg hc).symm.trans hf
        refine lv_aload_n E.1 E.2.1 dX12_count_45 rfl (lv_at hl 0 rfl) ?_
        refine fg_m_X12_22_0 E hG dX12_count_46 ?_
        refine lv_iload_n E.1 E.2.1 dX12_count_49 rfl (lv_at hl 1 rfl) ?_
        obtain ⟨hin, hf⟩ := gd_some hf
        refine al_m_5 E hG hin dX12_count_50 ?_
        refine lv_goto (tgt := 65) E.1 E.2.1 dX12_count_51 (by decide) ?_
        exact r_i E hr hlk hG hf dX12_count_65
    · replace hf := (if_pos hc).symm.trans hf
      refine lv_iconst (v := (-1 : Int32)) E.1 E.2.1 dX12_count_39 (by decide) ?_
      exact r_i E hr hlk hG hf dX12_count_40

set_option maxHeartbeats 4000000 in
set_option maxRecDepth 100000 in
theorem k_m_X12_powerOf_2 {p : Program} {l : Launch} {e : Env} {s : State} {m : MethodId} {args : Array Value} {below : List Frame} {meth : Method} {c : Code} {D : va_G} {ad : Nat → Nat} {cy : ClassId} {r : Int32} {σ' : SS} (E : CallFix p m c cX12_powerOf 2 s args TT yX12_powerOf.cls) (hr : meth.sig.returnType = (some FieldType.int)) (hlk : meth.locks = false) (g2 : SS → Int32 → Int32 → Option (Int32 × SS)) (hg2 : ∀ (σ : SS) (x0 : Int32) (x1 : Int32), g2 σ x0 x1 = some (r, σ') → At p l e 0 0 s m args below meth c D (mw ad cy) (mas ad) cy (some (.int r)) σ' 2 2 [(0, .int x0), (1, .int x1)] [] σ) : ∀ (σ : SS) (x0 : Int32) (x1 : Int32), f_m_X12_powerOf_2 g2 σ x0 x1 = some (r, σ') → At p l e 0 0 s m args below meth c D (mw ad cy) (mas ad) cy (some (.int r)) σ' 2 2 [(0, .int x0), (1, .int x1)] [] σ := by
  intro σ x0 x1 hf H locs ls hG hl
  unfold f_m_X12_powerOf_2 at hf
  refine lv_iload_n E.1 E.2.1 dX12_powerOf_2 rfl (lv_at hl 0 rfl) ?_
  refine lv_iload_n E.1 E.2.1 dX12_powerOf_3 rfl (lv_at hl 1 rfl) ?_
  refine lv_ishr E.1 E.2.1 dX12_powerOf_4 ?_
  refine lv_iconst (v := (1 : Int32)) E.1 E.2.1 dX12_powerOf_5 (by decide) ?_
  refine lv_icmp_le (tgt := 15) E.1 E.2.1 dX12_powerOf_6 (by decide) (fun hc => ?_) (fun hc => ?_)
  · replace hf := (if_pos hc).symm.trans hf
    refine lv_iload_n E.1 E.2.1 dX12_powerOf_15 rfl (lv_at hl 1 rfl) ?_
    exact r_i E hr hlk hG hf dX12_powerOf_16
  · replace hf := (if_neg hc).symm.trans hf
    refine lv_iinc (v := (x1 + (1 : Int32))) (lv' := [(1, .int (x1 + (1 : Int32))), (0, .int x0)]) E.1 E.2.1 dX12_powerOf_9 hl (k := 1) rfl rfl (by decide) rfl (fun ls hl => ?_)
    refine lv_goto (tgt := 2) E.1 E.2.1 dX12_powerOf_12 (by decide) ?_
    exact hg2 _ _ _ hf _ _ _ hG (lv_sub hl [1, 0] rfl)

set_option maxHeartbeats 4000000 in
set_option maxRecDepth 100000 in
theorem c_m_X12_powerOf {l : Launch} {D : va_G} {ad : Nat → Nat} {cy : ClassId} {σ : SS} {x0 : Int32} {r : Int32} {σ' : SS} (hf : f_m_X12_powerOf σ x0 = some (r, σ')) : Ctr l D (mw ad cy) (mas ad) cy yX12_powerOf cX12_powerOf 2 (some FieldType.int) 0 0 [.int x0] σ (some (.int r)) σ' := by
  refine Ctr.of (mw_as ad cy) rfl (Nat.le_of_ble_eq_true rfl) (fun p e s m args below meth c ls E hr hlk hl hG => ?_)
  have hl : lv_has ls 2 [(0, .int x0)] := hl
  unfold f_m_X12_powerOf at hf
  refine lv_iconst (v := (0 : Int32)) E.1 E.2.1 dX12_powerOf_0 (by decide) ?_
  refine lv_istore_n (lv' := [(1, .int (0 : Int32)), (0, .int x0)]) E.1 E.2.1 dX12_powerOf_1 rfl hl (by decide) rfl (fun ls hl => ?_)
  exact L2_at (P := fun σ x0 x1 => At p l e 0 0 s m args below meth c D (mw ad cy) (mas ad) cy (some (.int r)) σ' 2 2 [(0, .int x0), (1, .int x1)] [] σ) (fun g hg => k_m_X12_powerOf_2 E hr hlk g hg) FUEL _ _ _ hf _ _ _ hG (lv_sub hl [1, 0] rfl)

set_option maxHeartbeats 4000000 in
set_option maxRecDepth 100000 in
theorem k_m_X12_lowLog_19 {p : Program} {l : Launch} {e : Env} {s : State} {m : MethodId} {args : Array Value} {below : List Frame} {meth : Method} {c : Code} {D : va_G} {ad : Nat → Nat} {cy : ClassId} {r : Int64} {σ' : SS} (E : CallFix p m c cX12_lowLog 8 s args TT yX12_lowLog.cls) (hr : meth.sig.returnType = (some FieldType.long)) (hlk : meth.locks = false) (g19 : SS → Int32 → Int32 → Int64 → Int64 → Int32 → Option (Int64 × SS)) (hg19 : ∀ (σ : SS) (x1 : Int32) (x2 : Int32) (x3 : Int64) (x5 : Int64) (x7 : Int32), g19 σ x1 x2 x3 x5 x7 = some (r, σ') → At p l e 1 21 s m args below meth c D (mw ad cy) (mas ad) cy (some (.long r)) σ' 8 19 [(1, .int x1), (2, .int x2), (3, .long x3), (5, .long x5), (7, .int x7)] [] σ) : ∀ (σ : SS) (x1 : Int32) (x2 : Int32) (x3 : Int64) (x5 : Int64) (x7 : Int32), f_m_X12_lowLog_19 g19 σ x1 x2 x3 x5 x7 = some (r, σ') → At p l e 1 21 s m args below meth c D (mw ad cy) (mas ad) cy (some (.long r)) σ' 8 19 [(1, .int x1), (2, .int x2), (3, .long x3), (5, .long x5), (7, .int x7)] [] σ := by
  intro σ x1 x2 x3 x5 x7 hf H locs ls hG hl
  unfold f_m_X12_lowLog_19 at hf
  refine lv_iload E.1 E.2.1 dX12_lowLog_19 (lv_at hl 4 rfl) ?_
  refine lv_iload_n E.1 E.2.1 dX12_lowLog_21 rfl (lv_at hl 0 rfl) ?_
  refine lv_icmp_ge (tgt := 67) E.1 E.2.1 dX12_lowLog_22 (by decide) (fun hc => ?_) (fun hc => ?_)
  · replace hf := (if_pos hc).symm.trans hf
    refine lv_iload_n E.1 E.2.1 dX12_lowLog_67 rfl (lv_at hl 1 rfl) ?_
    refine lv_i2l E.1 E.2.1 dX12_lowLog_68 rfl ?_
    refine lv_iload_n E.1 E.2.1 dX12_lowLog_69 rfl (lv_at hl 0 rfl) ?_
    refine lv_lshl E.1 E.2.1 dX12_lowLog_70 rfl ?_
    refine lv_lload E.1 E.2.1 dX12_lowLog_71 (lv_at hl 3 rfl) ?_
    refine lv_ladd E.1 E.2.1 dX12_lowLog_73 ?_
    exact r_l E hr hlk hG hf dX12_lowLog_74
  · replace hf := (if_neg hc).symm.trans hf
    refine lv_lload_n E.1 E.2.1 dX12_lowLog_25 rfl (lv_at hl 2 rfl) ?_
    refine lv_lload_n E.1 E.2.1 dX12_lowLog_26 rfl (lv_at hl 2 rfl) ?_
    refine lv_lmul E.1 E.2.1 dX12_lowLog_27 ?_
    refine lv_ldc2 E.1 E.2.1 E.2.2.2.1 (E.2.2.2.2 _ Wd_882) dX12_lowLog_28 ?_
    refine lv_ldiv E.1 E.2.1 dX12_lowLog_31 (by decide) ?_
    refine lv_lstore_n (lv' := [(3, .long ((x3 * x3) / (1073741824 : Int64))), (1, .int x1), (2, .int x2), (5, .long x5), (7, .int x7)]) E.1 E.2.1 dX12_lowLog_32 rfl hl (by decide) rfl (fun ls hl => ?_)
    refine lv_ldc2 E.1 E.2.1 E.2.2.2.1 (E.2.2.2.2 _ Wd_883) dX12_lowLog_33 ?_
    refine lv_lload E.1 E.2.1 dX12_lowLog_36 (lv_at hl 3 rfl) ?_
    refine lv_lmul E.1 E.2.1 dX12_lowLog_38 ?_
    refine lv_lstore (lv' := [(5, .long ((2 : Int64) * x5)), (3, .long ((x3 * x3) / (1073741824 : Int64))), (1, .int x1), (2, .int x2), (7, .int x7)]) E.1 E.2.1 dX12_lowLog_39 hl (by decide) rfl (fun ls hl => ?_)
    refine lv_lload_n E.1 E.2.1 dX12_lowLog_41 rfl (lv_at hl 1 rfl) ?_
    refine lv_ldc2 E.1 E.2.1 E.2.2.2.1 (E.2.2.2.2 _ Wd_884) dX12_lowLog_42 ?_
    refine W.lcmp E.1 E.2.1 dX12_lowLog_45 ?_
    refine lv_if_lt (tgt := 61) E.1 E.2.1 dX12_lowLog_46 (by decide) (fun hc => ?_) (fun hc => ?_)
    · replace hf := (if_pos hc).symm.trans hf
      refine lv_iinc (v := (x7 + (1 : Int32))) (lv' := [(7, .int (x7 + (1 : Int32))), (5, .long ((2 : Int64) * x5)), (3, .long ((x3 * x3) / (1073741824 : Int64))), (1, .int x1), (2, .int x2)]) E.1 E.2.1 dX12_lowLog_61 hl (k := 4) rfl rfl (by decide) rfl (fun ls hl => ?_)
      refine lv_goto (tgt := 19) E.1 E.2.1 dX12_lowLog_64 (by decide) ?_
      exact hg19 _ _ _ _ _ _ hf _ _ _ hG (lv_sub hl [3, 4, 2, 1, 0] rfl)
    · replace hf := (if_neg hc).symm.trans hf
      refine lv_lload E.1 E.2.1 dX12_lowLog_49 (lv_at hl 0 rfl) ?_
      refine lv_lconst (v := (1 : Int64)) E.1 E.2.1 dX12_lowLog_51 (by decide) ?_
      refine lv_ladd E.1 E.2.1 dX12_lowLog_52 ?_
      refine lv_lstore (lv' := [(5, .long (((2 : Int64) * x5) + (1 : Int64))), (3, .long ((x3 * x3) / (1073741824 : Int64))), (1, .int x1), (2, .int x2), (7, .int x7)]) E.1 E.2.1 dX12_lowLog_53 hl (by decide) rfl (fun ls hl => ?_)
      refine lv_lload_n E.1 E.2.1 dX12_lowLog_55 rfl (lv_at hl 1 rfl) ?_
      refine lv_ldc2 E.1 E.2.1 E.2.2.2.1 (E.2.2.2.2 _ Wd_883) dX12_lowLog_56 ?_
      refine lv_ldiv E.1 E.2.1 dX12_lowLog_59 (by decide) ?_
      refine lv_lstore_n (lv' := [(3, .long (((x3 * x3) / (1073741824 : Int64)) / (2 : Int64))), (5, .long (((2 : Int64) * x5) + (1 : Int64))), (1, .int x1), (2, .int x2), (7, .int x7)]) E.1 E.2.1 dX12_lowLog_60 rfl hl (by decide) rfl (fun ls hl => ?_)
      refine lv_iinc (v := (x7 + (1 : Int32))) (lv' := [(7, .int (x7 + (1 : Int32))), (3, .long (((x3 * x3) / (1073741824 : Int64)) / (2 : Int64))), (5, .long (((2 : Int64) * x5) + (1 : Int64))), (1, .int x1), (2, .int x2)]) E.1 E.2.1 dX12_lowLog_61 hl (k := 4) rfl rfl (by decide) rfl (fun ls hl => ?_)
      refine lv_goto (tgt := 19) E.1 E.2.1 dX12_lowLog_64 (by decide) ?_
      exact hg19 _ _ _ _ _ _ hf _ _ _ hG (lv_sub hl [3, 4, 1, 2, 0] rfl)

set_option maxHeartbeats 4000000 in
set_option maxRecDepth 100000 in
theorem c_m_X12_lowLog {l : Launch} {D : va_G} {ad : Nat → Nat} {cy : ClassId} {σ : SS} {x0 : Int32} {x1 : Int32} {r : Int64} {σ' : SS} (hf : f_m_X12_lowLog σ x0 x1 = some (r, σ')) : Ctr l D (mw ad cy) (mas ad) cy yX12_lowLog cX12_lowLog 8 (some FieldType.long) 1 21 [.int x0, .int x1] σ (some (.long r)) σ' := by
  refine Ctr.of (mw_as ad cy) rfl (Nat.le_of_ble_eq_true rfl) (fun p e s m args below meth c ls E hr hlk hl hG => ?_)
  have hl : lv_has ls 8 [(0, .int x0), (1, .int x1)] := hl
  unfold f_m_X12_lowLog at hf
  refine lv_iload_n E.1 E.2.1 dX12_lowLog_0 rfl (lv_at hl 0 rfl) ?_
  obtain ⟨r1, σ1, hcl, hf⟩ := bd_some hf
  refine cl_S (rest := []) (st1 := [.int r1]) (As := [.int x0]) E hG (c_m_X12_powerOf hcl) Wd_879 mi_X12_powerOf ⟨Nat.le_of_ble_eq_true rfl, Nat.le_of_ble_eq_true rfl, Nat.zero_le _, Nat.zero_le _⟩ rfl hl.1 rfl (Nat.le_of_ble_eq_true rfl) dX12_lowLog_1 rfl (fun H locs hG => ?_)
  refine lv_istore_n (lv' := [(2, .int r1), (0, .int x0), (1, .int x1)]) E.1 E.2.1 dX12_lowLog_4 rfl hl (by decide) rfl (fun ls hl => ?_)
  refine lv_iload_n E.1 E.2.1 dX12_lowLog_5 rfl (lv_at hl 1 rfl) ?_
  refine lv_i2l E.1 E.2.1 dX12_lowLog_6 rfl ?_
  refine lv_bipush (v := (30 : Int32)) E.1 E.2.1 dX12_lowLog_7 (by decide) ?_
  refine lv_iload_n E.1 E.2.1 dX12_lowLog_9 rfl (lv_at hl 0 rfl) ?_
  refine lv_isub E.1 E.2.1 dX12_lowLog_10 ?_
  refine lv_lshl E.1 E.2.1 dX12_lowLog_11 rfl ?_
  refine lv_lstore_n (lv' := [(3, .long ((Int32.toInt64 x0) <<< (Int32.toInt64 ((30 : Int32) - r1) &&& 63))), (2, .int r1), (0, .int x0), (1, .int x1)]) E.1 E.2.1 dX12_lowLog_12 rfl hl (by decide) rfl (fun ls hl => ?_)
  refine lv_lconst (v := (0 : Int64)) E.1 E.2.1 dX12_lowLog_13 (by decide) ?_
  refine lv_lstore (lv' := [(5, .long (0 : Int64)), (3, .long ((Int32.toInt64 x0) <<< (Int32.toInt64 ((30 : Int32) - r1) &&& 63))), (2, .int r1), (0, .int x0), (1, .int x1)]) E.1 E.2.1 dX12_lowLog_14 hl (by decide) rfl (fun ls hl => ?_)
  refine lv_iconst (v := (0 : Int32)) E.1 E.2.1 dX12_lowLog_16 (by decide) ?_
  refine lv_istore (lv' := [(7, .int (0 : Int32)), (5, .long (0 : Int64)), (3, .long ((Int32.toInt64 x0) <<< (Int32.toInt64 ((30 : Int32) - r1) &&& 63))), (2, .int r1), (0, .int x0), (1, .int x1)]) E.1 E.2.1 dX12_lowLog_17 hl (by decide) rfl (fun ls hl => ?_)
  exact L5_at (P := fun σ x1 x2 x3 x5 x7 => At p l e 1 21 s m args below meth c D (mw ad cy) (mas ad) cy (some (.long r)) σ' 8 19 [(1, .int x1), (2, .int x2), (3, .long x3), (5, .long x5), (7, .int x7)] [] σ) (fun g hg => k_m_X12_lowLog_19 E hr hlk g hg) FUEL _ _ _ _ _ _ hf _ _ _ hG (lv_sub hl [5, 3, 2, 1, 0] rfl)

set_option maxHeartbeats 4000000 in
set_option maxRecDepth 100000 in
theorem k_m_X12_highLog_64 {p : Program} {l : Launch} {e : Env} {s : State} {m : MethodId} {args : Array Value} {below : List Frame} {meth : Method} {c : Code} {D : va_G} {ad : Nat → Nat} {cy : ClassId} {r : Int64} {σ' : SS} (E : CallFix p m c cX12_highLog 10 s args TT yX12_highLog.cls) (hr : meth.sig.returnType = (some FieldType.long)) (hlk : meth.locks = false) (g31 : SS → Int32 → Int32 → Int64 → Int64 → Int32 → Option (Int64 × SS)) (hg31 : ∀ (σ : SS) (x1 : Int32) (x2 : Int32) (x3 : Int64) (x5 : Int64) (x7 : Int32), g31 σ x1 x2 x3 x5 x7 = some (r, σ') → At p l e 1 21 s m args below meth c D (mw ad cy) (mas ad) cy (some (.long r)) σ' 10 31 [(1, .int x1), (2, .int x2), (3, .long x3), (5, .long x5), (7, .int x7)] [] σ) : ∀ (σ : SS) (x1 : Int32) (x2 : Int32) (x5 : Int64) (x7 : Int32) (y0 : Int64) (y1 : Int64), f_m_X12_highLog_64 g31 σ x1 x2 x5 x7 y0 y1 = some (r, σ') → At p l e 1 21 s m args below meth c D (mw ad cy) (mas ad) cy (some (.long r)) σ' 10 64 [(1, .int x1), (2, .int x2), (5, .long x5), (7, .int x7)] [.long y1, .long y0] σ := by
  intro σ x1 x2 x5 x7 y0 y1 hf H locs ls hG hl
  unfold f_m_X12_highLog_64 at hf
  refine lv_ladd E.1 E.2.1 dX12_highLog_64 ?_
  refine lv_lstore_n (lv' := [(3, .long (y0 + y1)), (1, .int x1), (2, .int x2), (5, .long x5), (7, .int x7)]) E.1 E.2.1 dX12_highLog_65 rfl hl (by decide) rfl (fun ls hl => ?_)
  refine lv_ldc2 E.1 E.2.1 E.2.2.2.1 (E.2.2.2.2 _ Wd_883) dX12_highLog_66 ?_
  refine lv_lload E.1 E.2.1 dX12_highLog_69 (lv_at hl 3 rfl) ?_
  refine lv_lmul E.1 E.2.1 dX12_highLog_71 ?_
  refine lv_lstore (lv' := [(5, .long ((2 : Int64) * x5)), (3, .long (y0 + y1)), (1, .int x1), (2, .int x2), (7, .int x7)]) E.1 E.2.1 dX12_highLog_72 hl (by decide) rfl (fun ls hl => ?_)
  refine lv_lload_n E.1 E.2.1 dX12_highLog_74 rfl (lv_at hl 1 rfl) ?_
  refine lv_ldc2 E.1 E.2.1 E.2.2.2.1 (E.2.2.2.2 _ Wd_884) dX12_highLog_75 ?_
  refine W.lcmp E.1 E.2.1 dX12_highLog_78 ?_
  refine lv_if_lt (tgt := 100) E.1 E.2.1 dX12_highLog_79 (by decide) (fun hc => ?_) (fun hc => ?_)
  · replace hf := (if_pos hc).symm.trans hf
    refine lv_iinc (v := (x7 + (1 : Int32))) (lv' := [(7, .int (x7 + (1 : Int32))), (5, .long ((2 : Int64) * x5)), (3, .long (y0 + y1)), (1, .int x1), (2, .int x2)]) E.1 E.2.1 dX12_highLog_100 hl (k := 4) rfl rfl (by decide) rfl (fun ls hl => ?_)
    refine lv_goto (tgt := 31) E.1 E.2.1 dX12_highLog_103 (by decide) ?_
    exact hg31 _ _ _ _ _ _ hf _ _ _ hG (lv_sub hl [3, 4, 2, 1, 0] rfl)
  · replace hf := (if_neg hc).symm.trans hf
    refine lv_lload E.1 E.2.1 dX12_highLog_82 (lv_at hl 0 rfl) ?_
    refine lv_lconst (v := (1 : Int64)) E.1 E.2.1 dX12_highLog_84 (by decide) ?_
    refine lv_ladd E.1 E.2.1 dX12_highLog_85 ?_
    refine lv_lstore (lv' := [(5, .long (((2 : Int64) * x5) + (1 : Int64))), (3, .long (y0 + y1)), (1, .int x1), (2, .int x2), (7, .int x7)]) E.1 E.2.1 dX12_highLog_86 hl (by decide) rfl (fun ls hl => ?_)
    refine lv_lload_n E.1 E.2.1 dX12_highLog_88 rfl (lv_at hl 1 rfl) ?_
    refine lv_ldc2 E.1 E.2.1 E.2.2.2.1 (E.2.2.2.2 _ Wd_883) dX12_highLog_89 ?_
    refine lv_ldiv E.1 E.2.1 dX12_highLog_92 (by decide) ?_
    refine lv_lload_n E.1 E.2.1 dX12_highLog_93 rfl (lv_at hl 1 rfl) ?_
    refine lv_ldc2 E.1 E.2.1 E.2.2.2.1 (E.2.2.2.2 _ Wd_883) dX12_highLog_94 ?_
    refine lv_lrem E.1 E.2.1 dX12_highLog_97 (by decide) ?_
    refine lv_ladd E.1 E.2.1 dX12_highLog_98 ?_
    refine lv_lstore_n (lv' := [(3, .long (((y0 + y1) / (2 : Int64)) + ((y0 + y1) - (y0 + y1) / (2 : Int64) * (2 : Int64)))), (5, .long (((2 : Int64) * x5) + (1 : Int64))), (1, .int x1), (2, .int x2), (7, .int x7)]) E.1 E.2.1 dX12_highLog_99 rfl hl (by decide) rfl (fun ls hl => ?_)
    refine lv_iinc (v := (x7 + (1 : Int32))) (lv' := [(7, .int (x7 + (1 : Int32))), (3, .long (((y0 + y1) / (2 : Int64)) + ((y0 + y1) - (y0 + y1) / (2 : Int64) * (2 : Int64)))), (5, .long (((2 : Int64) * x5) + (1 : Int64))), (1, .int x1), (2, .int x2)]) E.1 E.2.1 dX12_highLog_100 hl (k := 4) rfl rfl (by decide) rfl (fun ls hl => ?_)
    refine lv_goto (tgt := 31) E.1 E.2.1 dX12_highLog_103 (by decide) ?_
    exact hg31 _ _ _ _ _ _ hf _ _ _ hG (lv_sub hl [3, 4, 1, 2, 0] rfl)

set_option maxHeartbeats 4000000 in
set_option maxRecDepth 100000 in
theorem k_m_X12_highLog_31 {p : Program} {l : Launch} {e : Env} {s : State} {m : MethodId} {args : Array Value} {below : List Frame} {meth : Method} {c : Code} {D : va_G} {ad : Nat → Nat} {cy : ClassId} {r : Int64} {σ' : SS} (E : CallFix p m c cX12_highLog 10 s args TT yX12_highLog.cls) (hr : meth.sig.returnType = (some FieldType.long)) (hlk : meth.locks = false) (g31 : SS → Int32 → Int32 → Int64 → Int64 → Int32 → Option (Int64 × SS)) (hg31 : ∀ (σ : SS) (x1 : Int32) (x2 : Int32) (x3 : Int64) (x5 : Int64) (x7 : Int32), g31 σ x1 x2 x3 x5 x7 = some (r, σ') → At p l e 1 21 s m args below meth c D (mw ad cy) (mas ad) cy (some (.long r)) σ' 10 31 [(1, .int x1), (2, .int x2), (3, .long x3), (5, .long x5), (7, .int x7)] [] σ) : ∀ (σ : SS) (x1 : Int32) (x2 : Int32) (x3 : Int64) (x5 : Int64) (x7 : Int32), f_m_X12_highLog_31 g31 σ x1 x2 x3 x5 x7 = some (r, σ') → At p l e 1 21 s m args below meth c D (mw ad cy) (mas ad) cy (some (.long r)) σ' 10 31 [(1, .int x1), (2, .int x2), (3, .long x3), (5, .long x5), (7, .int x7)] [] σ := by
  intro σ x1 x2 x3 x5 x7 hf H locs ls hG hl
  unfold f_m_X12_highLog_31 at hf
  refine lv_iload E.1 E.2.1 dX12_highLog_31 (lv_at hl 4 rfl) ?_
  refine lv_iload_n E.1 E.2.1 dX12_highLog_33 rfl (lv_at hl 0 rfl) ?_
  refine lv_icmp_ge (tgt := 106) E.1 E.2.1 dX12_highLog_34 (by decide) (fun hc => ?_) (fun hc => ?_)
  · replace hf := (if_pos hc).symm.trans hf
    refine lv_iload_n E.1 E.2.1 dX12_highLog_106 rfl (lv_at hl 1 rfl) ?_
    refine lv_i2l E.1 E.2.1 dX12_highLog_107 rfl ?_
    refine lv_iload_n E.1 E.2.1 dX12_highLog_108 rfl (lv_at hl 0 rfl) ?_
    refine lv_lshl E.1 E.2.1 dX12_highLog_109 rfl ?_
    refine lv_lload E.1 E.2.1 dX12_highLog_110 (lv_at hl 3 rfl) ?_
    refine lv_ladd E.1 E.2.1 dX12_highLog_112 ?_
    refine lv_lconst (v := (1 : Int64)) E.1 E.2.1 dX12_highLog_113 (by decide) ?_
    refine lv_ladd E.1 E.2.1 dX12_highLog_114 ?_
    exact r_l E hr hlk hG hf dX12_highLog_115
  · replace hf := (if_neg hc).symm.trans hf
    refine lv_lload_n E.1 E.2.1 dX12_highLog_37 rfl (lv_at hl 2 rfl) ?_
    refine lv_lload_n E.1 E.2.1 dX12_highLog_38 rfl (lv_at hl 2 rfl) ?_
    refine lv_lmul E.1 E.2.1 dX12_highLog_39 ?_
    refine lv_lstore (lv' := [(8, .long (x3 * x3)), (1, .int x1), (2, .int x2), (3, .long x3), (5, .long x5), (7, .int x7)]) E.1 E.2.1 dX12_highLog_40 hl (by decide) rfl (fun ls hl => ?_)
    refine lv_lload E.1 E.2.1 dX12_highLog_42 (lv_at hl 0 rfl) ?_
    refine lv_ldc2 E.1 E.2.1 E.2.2.2.1 (E.2.2.2.2 _ Wd_882) dX12_highLog_44 ?_
    refine lv_ldiv E.1 E.2.1 dX12_highLog_47 (by decide) ?_
    refine lv_lload E.1 E.2.1 dX12_highLog_48 (lv_at hl 0 rfl) ?_
    refine lv_ldc2 E.1 E.2.1 E.2.2.2.1 (E.2.2.2.2 _ Wd_882) dX12_highLog_50 ?_
    refine lv_lrem E.1 E.2.1 dX12_highLog_53 (by decide) ?_
    refine lv_lconst (v := (0 : Int64)) E.1 E.2.1 dX12_highLog_54 (by decide) ?_
    refine W.lcmp E.1 E.2.1 dX12_highLog_55 ?_
    refine lv_if_ne (tgt := 63) E.1 E.2.1 dX12_highLog_56 (by decide) (fun hc => ?_) (fun hc => ?_)
    · replace hf := (if_neg hc).symm.trans hf
      refine lv_lconst (v := (1 : Int64)) E.1 E.2.1 dX12_highLog_63 (by decide) ?_
      exact k_m_X12_highLog_64 E hr hlk g31 hg31 _ _ _ _ _ _ _ hf _ _ _ hG (lv_sub hl [1, 2, 4, 5] rfl)
    · replace hf := (if_pos hc).symm.trans hf
      refine lv_lconst (v := (0 : Int64)) E.1 E.2.1 dX12_highLog_59 (by decide) ?_
      refine lv_goto (tgt := 64) E.1 E.2.1 dX12_highLog_60 (by decide) ?_
      exact k_m_X12_highLog_64 E hr hlk g31 hg31 _ _ _ _ _ _ _ hf _ _ _ hG (lv_sub hl [1, 2, 4, 5] rfl)

set_option maxHeartbeats 4000000 in
set_option maxRecDepth 100000 in
theorem c_m_X12_highLog {l : Launch} {D : va_G} {ad : Nat → Nat} {cy : ClassId} {σ : SS} {x0 : Int32} {x1 : Int32} {r : Int64} {σ' : SS} (hf : f_m_X12_highLog σ x0 x1 = some (r, σ')) : Ctr l D (mw ad cy) (mas ad) cy yX12_highLog cX12_highLog 10 (some FieldType.long) 1 21 [.int x0, .int x1] σ (some (.long r)) σ' := by
  refine Ctr.of (mw_as ad cy) rfl (Nat.le_of_ble_eq_true rfl) (fun p e s m args below meth c ls E hr hlk hl hG => ?_)
  have hl : lv_has ls 10 [(0, .int x0), (1, .int x1)] := hl
  unfold f_m_X12_highLog at hf
  refine lv_iload_n E.1 E.2.1 dX12_highLog_0 rfl (lv_at hl 0 rfl) ?_
  obtain ⟨r1, σ1, hcl, hf⟩ := bd_some hf
  refine cl_S (rest := []) (st1 := [.int r1]) (As := [.int x0]) E hG (c_m_X12_powerOf hcl) Wd_879 mi_X12_powerOf ⟨Nat.le_of_ble_eq_true rfl, Nat.le_of_ble_eq_true rfl, Nat.zero_le _, Nat.zero_le _⟩ rfl hl.1 rfl (Nat.le_of_ble_eq_true rfl) dX12_highLog_1 rfl (fun H locs hG => ?_)
  refine lv_istore_n (lv' := [(2, .int r1), (0, .int x0), (1, .int x1)]) E.1 E.2.1 dX12_highLog_4 rfl hl (by decide) rfl (fun ls hl => ?_)
  refine lv_iload_n E.1 E.2.1 dX12_highLog_5 rfl (lv_at hl 1 rfl) ?_
  refine lv_iconst (v := (1 : Int32)) E.1 E.2.1 dX12_highLog_6 (by decide) ?_
  refine lv_iload_n E.1 E.2.1 dX12_highLog_7 rfl (lv_at hl 0 rfl) ?_
  refine lv_ishl E.1 E.2.1 dX12_highLog_8 ?_
  refine lv_icmp_ne (tgt := 17) E.1 E.2.1 dX12_highLog_9 (by decide) (fun hc => ?_) (fun hc => ?_)
  · replace hf := (if_neg hc).symm.trans hf
    refine lv_iload_n E.1 E.2.1 dX12_highLog_17 rfl (lv_at hl 1 rfl) ?_
    refine lv_i2l E.1 E.2.1 dX12_highLog_18 rfl ?_
    refine lv_bipush (v := (30 : Int32)) E.1 E.2.1 dX12_highLog_19 (by decide) ?_
    refine lv_iload_n E.1 E.2.1 dX12_highLog_21 rfl (lv_at hl 0 rfl) ?_
    refine lv_isub E.1 E.2.1 dX12_highLog_22 ?_
    refine lv_lshl E.1 E.2.1 dX12_highLog_23 rfl ?_
    refine lv_lstore_n (lv' := [(3, .long ((Int32.toInt64 x0) <<< (Int32.toInt64 ((30 : Int32) - r1) &&& 63))), (2, .int r1), (0, .int x0), (1, .int x1)]) E.1 E.2.1 dX12_highLog_24 rfl hl (by decide) rfl (fun ls hl => ?_)
    refine lv_lconst (v := (0 : Int64)) E.1 E.2.1 dX12_highLog_25 (by decide) ?_
    refine lv_lstore (lv' := [(5, .long (0 : Int64)), (3, .long ((Int32.toInt64 x0) <<< (Int32.toInt64 ((30 : Int32) - r1) &&& 63))), (2, .int r1), (0, .int x0), (1, .int x1)]) E.1 E.2.1 dX12_highLog_26 hl (by decide) rfl (fun ls hl => ?_)
    refine lv_iconst (v := (0 : Int32)) E.1 E.2.1 dX12_highLog_28 (by decide) ?_
    refine lv_istore (lv' := [(7, .int (0 : Int32)), (5, .long (0 : Int64)), (3, .long ((Int32.toInt64 x0) <<< (Int32.toInt64 ((30 : Int32) - r1) &&& 63))), (2, .int r1), (0, .int x0), (1, .int x1)]) E.1 E.2.1 dX12_highLog_29 hl (by decide) rfl (fun ls hl => ?_)
    exact L5_at (P := fun σ x1 x2 x3 x5 x7 => At p l e 1 21 s m args below meth c D (mw ad cy) (mas ad) cy (some (.long r)) σ' 10 31 [(1, .int x1), (2, .int x2), (3, .long x3), (5, .long x5), (7, .int x7)] [] σ) (fun g hg => k_m_X12_highLog_31 E hr hlk g hg) FUEL _ _ _ _ _ _ hf _ _ _ hG (lv_sub hl [5, 3, 2, 1, 0] rfl)
  · replace hf := (if_pos hc).symm.trans hf
    refine lv_iload_n E.1 E.2.1 dX12_highLog_12 rfl (lv_at hl 0 rfl) ?_
    refine lv_i2l E.1 E.2.1 dX12_highLog_13 rfl ?_
    refine lv_iload_n E.1 E.2.1 dX12_highLog_14 rfl (lv_at hl 2 rfl) ?_
    refine lv_lshl E.1 E.2.1 dX12_highLog_15 rfl ?_
    exact r_l E hr hlk hG hf dX12_highLog_16

set_option maxHeartbeats 4000000 in
set_option maxRecDepth 100000 in
theorem c_m_X12_log {l : Launch} {D : va_G} {ad : Nat → Nat} {cy : ClassId} {σ : SS} {x1 : Int32} {x2 : Int32} {x3 : Int32} {r : Int64} {σ' : SS} (hf : f_m_X12_log σ x1 x2 x3 = some (r, σ')) : Ctr l D (mw ad cy) (mas ad) cy yX12_log cX12_log 4 (some FieldType.long) 2 50 [.ref (ad 0), .int x1, .int x2, .int x3] σ (some (.long r)) σ' := by
  refine Ctr.of (mw_as ad cy) rfl (Nat.le_of_ble_eq_true rfl) (fun p e s m args below meth c ls E hr hlk hl hG => ?_)
  have hl : lv_has ls 4 [(0, .ref (ad 0)), (1, .int x1), (2, .int x2), (3, .int x3)] := hl
  unfold f_m_X12_log at hf
  refine lv_aload_n E.1 E.2.1 dX12_log_0 rfl (lv_at hl 0 rfl) ?_
  refine lv_iconst (v := (0 : Int32)) E.1 E.2.1 dX12_log_1 (by decide) ?_
  refine fp_m_X12_59_0 E hG dX12_log_2 (fun H locs hG => ?_)
  refine lv_iload_n E.1 E.2.1 dX12_log_5 rfl (lv_at hl 1 rfl) ?_
  refine lv_i2l E.1 E.2.1 dX12_log_6 rfl ?_
  refine lv_lconst (v := (1 : Int64)) E.1 E.2.1 dX12_log_7 (by decide) ?_
  refine lv_ldc2 E.1 E.2.1 E.2.2.2.1 (E.2.2.2.2 _ Wd_874) dX12_log_8 ?_
  obtain ⟨r11, σ11, hcl, hf⟩ := bd_some hf
  refine cl_S (rest := []) (st1 := [.int r11]) (As := [.long (Int32.toInt64 x1), .long (1 : Int64), .long (1048576 : Int64)]) E hG (c_m_X12_in hcl) Wd_837 mi_X12_in ⟨Nat.le_of_ble_eq_true rfl, Nat.le_of_ble_eq_true rfl, Nat.zero_le _, Nat.zero_le _⟩ rfl hl.1 rfl (Nat.le_of_ble_eq_true rfl) dX12_log_11 rfl (fun H locs hG => ?_)
  refine lv_if_eq (tgt := 39) E.1 E.2.1 dX12_log_14 (by decide) (fun hc => ?_) (fun hc => ?_)
  · replace hf := (if_pos hc).symm.trans hf
    refine lv_ldc2 E.1 E.2.1 E.2.2.2.1 (E.2.2.2.2 _ Wd_869) dX12_log_39 ?_
    exact r_l E hr hlk hG hf dX12_log_42
  · replace hf := (if_neg hc).symm.trans hf
    refine lv_iload_n E.1 E.2.1 dX12_log_17 rfl (lv_at hl 2 rfl) ?_
    refine lv_i2l E.1 E.2.1 dX12_log_18 rfl ?_
    refine lv_lconst (v := (0 : Int64)) E.1 E.2.1 dX12_log_19 (by decide) ?_
    refine lv_ldc2 E.1 E.2.1 E.2.2.2.1 (E.2.2.2.2 _ Wd_875) dX12_log_20 ?_
    obtain ⟨r23, σ23, hcl, hf⟩ := bd_some hf
    refine cl_S (rest := []) (st1 := [.int r23]) (As := [.long (Int32.toInt64 x2), .long (0 : Int64), .long (24 : Int64)]) E hG (c_m_X12_in hcl) Wd_837 mi_X12_in ⟨Nat.le_of_ble_eq_true rfl, Nat.le_of_ble_eq_true rfl, Nat.zero_le _, Nat.zero_le _⟩ rfl hl.1 rfl (Nat.le_of_ble_eq_true rfl) dX12_log_23 rfl (fun H locs hG => ?_)
    refine lv_if_eq (tgt := 39) E.1 E.2.1 dX12_log_26 (by decide) (fun hc => ?_) (fun hc => ?_)
    · replace hf := (if_pos hc).symm.trans hf
      refine lv_ldc2 E.1 E.2.1 E.2.2.2.1 (E.2.2.2.2 _ Wd_869) dX12_log_39 ?_
      exact r_l E hr hlk hG hf dX12_log_42
    · replace hf := (if_neg hc).symm.trans hf
      refine lv_iload_n E.1 E.2.1 dX12_log_29 rfl (lv_at hl 3 rfl) ?_
      refine lv_i2l E.1 E.2.1 dX12_log_30 rfl ?_
      refine lv_lconst (v := (0 : Int64)) E.1 E.2.1 dX12_log_31 (by decide) ?_
      refine lv_lconst (v := (1 : Int64)) E.1 E.2.1 dX12_log_32 (by decide) ?_
      obtain ⟨r33, σ33, hcl, hf⟩ := bd_some hf
      refine cl_S (rest := []) (st1 := [.int r33]) (As := [.long (Int32.toInt64 x3), .long (0 : Int64), .long (1 : Int64)]) E hG (c_m_X12_in hcl) Wd_837 mi_X12_in ⟨Nat.le_of_ble_eq_true rfl, Nat.le_of_ble_eq_true rfl, Nat.zero_le _, Nat.zero_le _⟩ rfl hl.1 rfl (Nat.le_of_ble_eq_true rfl) dX12_log_33 rfl (fun H locs hG => ?_)
      refine lv_if_ne (tgt := 43) E.1 E.2.1 dX12_log_36 (by decide) (fun hc => ?_) (fun hc => ?_)
      · replace hf := (if_neg hc).symm.trans hf
        refine lv_iload_n E.1 E.2.1 dX12_log_43 rfl (lv_at hl 3 rfl) ?_
        refine lv_if_ne (tgt := 55) E.1 E.2.1 dX12_log_44 (by decide) (fun hc => ?_) (fun hc => ?_)
        · replace hf := (if_neg hc).symm.trans hf
          refine lv_iload_n E.1 E.2.1 dX12_log_55 rfl (lv_at hl 1 rfl) ?_
          refine lv_iload_n E.1 E.2.1 dX12_log_56 rfl (lv_at hl 2 rfl) ?_
          obtain ⟨r57, σ57, hcl, hf⟩ := bd_some hf
          refine cl_S (rest := []) (st1 := [.long r57]) (As := [.int x1, .int x2]) E hG (c_m_X12_highLog hcl) Wd_885 mi_X12_highLog ⟨Nat.le_of_ble_eq_true rfl, Nat.le_of_ble_eq_true rfl, Nat.zero_le _, Nat.zero_le _⟩ rfl hl.1 rfl (Nat.le_of_ble_eq_true rfl) dX12_log_57 rfl (fun H locs hG => ?_)
          exact r_l E hr hlk hG hf dX12_log_60
        · replace hf := (if_pos hc).symm.trans hf
          refine lv_iload_n E.1 E.2.1 dX12_log_47 rfl (lv_at hl 1 rfl) ?_
          refine lv_iload_n E.1 E.2.1 dX12_log_48 rfl (lv_at hl 2 rfl) ?_
          obtain ⟨r49, σ49, hcl, hf⟩ := bd_some hf
          refine cl_S (rest := []) (st1 := [.long r49]) (As := [.int x1, .int x2]) E hG (c_m_X12_lowLog hcl) Wd_876 mi_X12_lowLog ⟨Nat.le_of_ble_eq_true rfl, Nat.le_of_ble_eq_true rfl, Nat.zero_le _, Nat.zero_le _⟩ rfl hl.1 rfl (Nat.le_of_ble_eq_true rfl) dX12_log_49 rfl (fun H locs hG => ?_)
          refine lv_goto (tgt := 60) E.1 E.2.1 dX12_log_52 (by decide) ?_
          exact r_l E hr hlk hG hf dX12_log_60
      · replace hf := (if_pos hc).symm.trans hf
        refine lv_ldc2 E.1 E.2.1 E.2.2.2.1 (E.2.2.2.2 _ Wd_869) dX12_log_39 ?_
        exact r_l E hr hlk hG hf dX12_log_42

set_option maxHeartbeats 4000000 in
set_option maxRecDepth 100000 in
theorem c_m_X12_weight {l : Launch} {D : va_G} {ad : Nat → Nat} {cy : ClassId} {σ : SS} {x1 : Int32} {x2 : Int32} {r : Int32} {σ' : SS} (hf : f_m_X12_weight σ x1 x2 = some (r, σ')) : Ctr l D (mw ad cy) (mas ad) cy yX12_weight cX12_weight 4 (some FieldType.int) 2 45 [.ref (ad 0), .int x1, .int x2] σ (some (.int r)) σ' := by
  refine Ctr.of (mw_as ad cy) rfl (Nat.le_of_ble_eq_true rfl) (fun p e s m args below meth c ls E hr hlk hl hG => ?_)
  have hl : lv_has ls 4 [(0, .ref (ad 0)), (1, .int x1), (2, .int x2)] := hl
  unfold f_m_X12_weight at hf
  refine lv_aload_n E.1 E.2.1 dX12_weight_0 rfl (lv_at hl 0 rfl) ?_
  refine lv_iconst (v := (0 : Int32)) E.1 E.2.1 dX12_weight_1 (by decide) ?_
  refine fp_m_X12_59_0 E hG dX12_weight_2 (fun H locs hG => ?_)
  refine lv_iload_n E.1 E.2.1 dX12_weight_5 rfl (lv_at hl 1 rfl) ?_
  obtain ⟨r6, σ6, hcl, hf⟩ := bd_some hf
  refine cl_S (rest := []) (st1 := [.int r6]) (As := [.int x1]) E hG (c_m_X12_isSign hcl) Wd_833 mi_X12_isSign ⟨Nat.le_of_ble_eq_true rfl, Nat.le_of_ble_eq_true rfl, Nat.zero_le _, Nat.zero_le _⟩ rfl hl.1 rfl (Nat.le_of_ble_eq_true rfl) dX12_weight_6 rfl (fun H locs hG => ?_)
  refine lv_if_eq (tgt := 24) E.1 E.2.1 dX12_weight_9 (by decide) (fun hc => ?_) (fun hc => ?_)
  · replace hf := (if_pos hc).symm.trans hf
    refine lv_iconst (v := (-1 : Int32)) E.1 E.2.1 dX12_weight_24 (by decide) ?_
    exact r_i E hr hlk hG hf dX12_weight_25
  · replace hf := (if_neg hc).symm.trans hf
    refine lv_iload_n E.1 E.2.1 dX12_weight_12 rfl (lv_at hl 2 rfl) ?_
    refine lv_i2l E.1 E.2.1 dX12_weight_13 rfl ?_
    refine lv_lconst (v := (0 : Int64)) E.1 E.2.1 dX12_weight_14 (by decide) ?_
    refine lv_ldc2 E.1 E.2.1 E.2.2.2.1 (E.2.2.2.2 _ Wd_892) dX12_weight_15 ?_
    obtain ⟨r18, σ18, hcl, hf⟩ := bd_some hf
    refine cl_S (rest := []) (st1 := [.int r18]) (As := [.long (Int32.toInt64 x2), .long (0 : Int64), .long (1000 : Int64)]) E hG (c_m_X12_in hcl) Wd_837 mi_X12_in ⟨Nat.le_of_ble_eq_true rfl, Nat.le_of_ble_eq_true rfl, Nat.zero_le _, Nat.zero_le _⟩ rfl hl.1 rfl (Nat.le_of_ble_eq_true rfl) dX12_weight_18 rfl (fun H locs hG => ?_)
    refine lv_if_ne (tgt := 26) E.1 E.2.1 dX12_weight_21 (by decide) (fun hc => ?_) (fun hc => ?_)
    · replace hf := (if_neg hc).symm.trans hf
      refine lv_aload_n E.1 E.2.1 dX12_weight_26 rfl (lv_at hl 0 rfl) ?_
      refine fg_m_X12_13_0 E hG dX12_weight_27 ?_
      refine lv_iload_n E.1 E.2.1 dX12_weight_30 rfl (lv_at hl 1 rfl) ?_
      obtain ⟨hin, hf⟩ := gd_some hf
      refine al_m_2 E hG hin dX12_weight_31 ?_
      refine lv_istore_n (lv' := [(3, .int (σ18.2 1 (Int32.toNatClampNeg x1))), (0, .ref (ad 0)), (1, .int x1), (2, .int x2)]) E.1 E.2.1 dX12_weight_32 rfl hl (by decide) rfl (fun ls hl => ?_)
      refine lv_aload_n E.1 E.2.1 dX12_weight_33 rfl (lv_at hl 1 rfl) ?_
      refine fg_m_X12_13_0 E hG dX12_weight_34 ?_
      refine lv_iload_n E.1 E.2.1 dX12_weight_37 rfl (lv_at hl 2 rfl) ?_
      refine lv_iload_n E.1 E.2.1 dX12_weight_38 rfl (lv_at hl 3 rfl) ?_
      obtain ⟨hin, hf⟩ := gd_some hf
      refine as_m_2 E hG hin dX12_weight_39 (fun H locs hG => ?_)
      refine lv_iload_n E.1 E.2.1 dX12_weight_40 rfl (lv_at hl 0 rfl) ?_
      exact r_i E hr hlk hG hf dX12_weight_41
    · replace hf := (if_pos hc).symm.trans hf
      refine lv_iconst (v := (-1 : Int32)) E.1 E.2.1 dX12_weight_24 (by decide) ?_
      exact r_i E hr hlk hG hf dX12_weight_25

set_option maxHeartbeats 4000000 in
set_option maxRecDepth 100000 in
theorem k_m_X12_sumOfWeights_4 {p : Program} {l : Launch} {e : Env} {s : State} {m : MethodId} {args : Array Value} {below : List Frame} {meth : Method} {c : Code} {D : va_G} {ad : Nat → Nat} {cy : ClassId} {r : Int32} {σ' : SS} (E : CallFix p m c cX12_sumOfWeights 3 s args TT yX12_sumOfWeights.cls) (hr : meth.sig.returnType = (some FieldType.int)) (hlk : meth.locks = false) (g4 : SS → Int32 → Int32 → Option (Int32 × SS)) (hg4 : ∀ (σ : SS) (x1 : Int32) (x2 : Int32), g4 σ x1 x2 = some (r, σ') → At p l e 0 0 s m args below meth c D (mw ad cy) (mas ad) cy (some (.int r)) σ' 3 4 [(0, .ref (ad 0)), (1, .int x1), (2, .int x2)] [] σ) : ∀ (σ : SS) (x1 : Int32) (x2 : Int32), f_m_X12_sumOfWeights_4 g4 σ x1 x2 = some (r, σ') → At p l e 0 0 s m args below meth c D (mw ad cy) (mas ad) cy (some (.int r)) σ' 3 4 [(0, .ref (ad 0)), (1, .int x1), (2, .int x2)] [] σ := by
  intro σ x1 x2 hf H locs ls hG hl
  unfold f_m_X12_sumOfWeights_4 at hf
  refine lv_iload_n E.1 E.2.1 dX12_sumOfWeights_4 rfl (lv_at hl 2 rfl) ?_
  refine lv_bipush (v := (16 : Int32)) E.1 E.2.1 dX12_sumOfWeights_5 (by decide) ?_
  refine lv_icmp_ge (tgt := 25) E.1 E.2.1 dX12_sumOfWeights_7 (by decide) (fun hc => ?_) (fun hc => ?_)
  · replace hf := (if_pos hc).symm.trans hf
    refine lv_iload_n E.1 E.2.1 dX12_sumOfWeights_25 rfl (lv_at hl 1 rfl) ?_
    exact r_i E hr hlk hG hf dX12_sumOfWeights_26
  · replace hf := (if_neg hc).symm.trans hf
    refine lv_iload_n E.1 E.2.1 dX12_sumOfWeights_10 rfl (lv_at hl 1 rfl) ?_
    refine lv_aload_n E.1 E.2.1 dX12_sumOfWeights_11 rfl (lv_at hl 0 rfl) ?_
    refine fg_m_X12_13_0 E hG dX12_sumOfWeights_12 ?_
    refine lv_iload_n E.1 E.2.1 dX12_sumOfWeights_15 rfl (lv_at hl 2 rfl) ?_
    obtain ⟨hin, hf⟩ := gd_some hf
    refine al_m_2 E hG hin dX12_sumOfWeights_16 ?_
    refine lv_iadd E.1 E.2.1 dX12_sumOfWeights_17 ?_
    refine lv_istore_n (lv' := [(1, .int (x1 + (σ.2 1 (Int32.toNatClampNeg x2)))), (0, .ref (ad 0)), (2, .int x2)]) E.1 E.2.1 dX12_sumOfWeights_18 rfl hl (by decide) rfl (fun ls hl => ?_)
    refine lv_iinc (v := (x2 + (1 : Int32))) (lv' := [(2, .int (x2 + (1 : Int32))), (1, .int (x1 + (σ.2 1 (Int32.toNatClampNeg x2)))), (0, .ref (ad 0))]) E.1 E.2.1 dX12_sumOfWeights_19 hl (k := 2) rfl rfl (by decide) rfl (fun ls hl => ?_)
    refine lv_goto (tgt := 4) E.1 E.2.1 dX12_sumOfWeights_22 (by decide) ?_
    exact hg4 _ _ _ hf _ _ _ hG (lv_sub hl [2, 1, 0] rfl)

set_option maxHeartbeats 4000000 in
set_option maxRecDepth 100000 in
theorem c_m_X12_sumOfWeights {l : Launch} {D : va_G} {ad : Nat → Nat} {cy : ClassId} {σ : SS} {r : Int32} {σ' : SS} (hf : f_m_X12_sumOfWeights σ = some (r, σ')) : Ctr l D (mw ad cy) (mas ad) cy yX12_sumOfWeights cX12_sumOfWeights 3 (some FieldType.int) 0 0 [.ref (ad 0)] σ (some (.int r)) σ' := by
  refine Ctr.of (mw_as ad cy) rfl (Nat.le_of_ble_eq_true rfl) (fun p e s m args below meth c ls E hr hlk hl hG => ?_)
  have hl : lv_has ls 3 [(0, .ref (ad 0))] := hl
  unfold f_m_X12_sumOfWeights at hf
  refine lv_iconst (v := (0 : Int32)) E.1 E.2.1 dX12_sumOfWeights_0 (by decide) ?_
  refine lv_istore_n (lv' := [(1, .int (0 : Int32)), (0, .ref (ad 0))]) E.1 E.2.1 dX12_sumOfWeights_1 rfl hl (by decide) rfl (fun ls hl => ?_)
  refine lv_iconst (v := (0 : Int32)) E.1 E.2.1 dX12_sumOfWeights_2 (by decide) ?_
  refine lv_istore_n (lv' := [(2, .int (0 : Int32)), (1, .int (0 : Int32)), (0, .ref (ad 0))]) E.1 E.2.1 dX12_sumOfWeights_3 rfl hl (by decide) rfl (fun ls hl => ?_)
  exact L2_at (P := fun σ x1 x2 => At p l e 0 0 s m args below meth c D (mw ad cy) (mas ad) cy (some (.int r)) σ' 3 4 [(0, .ref (ad 0)), (1, .int x1), (2, .int x2)] [] σ) (fun g hg => k_m_X12_sumOfWeights_4 E hr hlk g hg) FUEL _ _ _ hf _ _ _ hG (lv_sub hl [2, 1, 0] rfl)

set_option maxHeartbeats 4000000 in
set_option maxRecDepth 100000 in
theorem k_m_X12_share_26 {p : Program} {l : Launch} {e : Env} {s : State} {m : MethodId} {args : Array Value} {below : List Frame} {meth : Method} {c : Code} {D : va_G} {ad : Nat → Nat} {cy : ClassId} {r : Int64} {σ' : SS} (E : CallFix p m c cX12_share 3 s args TT yX12_share.cls) (hr : meth.sig.returnType = (some FieldType.long)) (hlk : meth.locks = false) : ∀ (σ : SS) (x1 : Int32) (x2 : Int32) (y1 : Int32), f_m_X12_share_26 σ x1 x2 y1 = some (r, σ') → At p l e 2 45 s m args below meth c D (mw ad cy) (mas ad) cy (some (.long r)) σ' 3 26 [(0, .ref (ad 0)), (1, .int x1), (2, .int x2)] [.int y1, .ref (ad 0)] σ := by
  intro σ x1 x2 y1 hf H locs ls hG hl
  unfold f_m_X12_share_26 at hf
  refine fp_m_X12_59_0 E hG dX12_share_26 (fun H locs hG => ?_)
  refine lv_aload_n E.1 E.2.1 dX12_share_29 rfl (lv_at hl 0 rfl) ?_
  refine fg_m_X12_59_0 E hG dX12_share_30 ?_
  refine lv_if_ne (tgt := 53) E.1 E.2.1 dX12_share_33 (by decide) (fun hc => ?_) (fun hc => ?_)
  · replace hf := (if_neg hc).symm.trans hf
    refine lv_lconst (v := (0 : Int64)) E.1 E.2.1 dX12_share_53 (by decide) ?_
    exact r_l E hr hlk hG hf dX12_share_54
  · replace hf := (if_pos hc).symm.trans hf
    refine lv_ldc2 E.1 E.2.1 E.2.2.2.1 (E.2.2.2.2 _ Wd_901) dX12_share_36 ?_
    refine lv_aload_n E.1 E.2.1 dX12_share_39 rfl (lv_at hl 0 rfl) ?_
    refine fg_m_X12_13_0 E hG dX12_share_40 ?_
    refine lv_iload_n E.1 E.2.1 dX12_share_43 rfl (lv_at hl 1 rfl) ?_
    obtain ⟨hin, hf⟩ := gd_some hf
    refine al_m_2 E hG hin dX12_share_44 ?_
    refine lv_i2l E.1 E.2.1 dX12_share_45 rfl ?_
    refine lv_lmul E.1 E.2.1 dX12_share_46 ?_
    refine lv_iload_n E.1 E.2.1 dX12_share_47 rfl (lv_at hl 2 rfl) ?_
    refine lv_i2l E.1 E.2.1 dX12_share_48 rfl ?_
    obtain ⟨hz, hf⟩ := gZ_some hf
    refine lv_ldiv E.1 E.2.1 dX12_share_49 hz ?_
    refine lv_goto (tgt := 54) E.1 E.2.1 dX12_share_50 (by decide) ?_
    exact r_l E hr hlk hG hf dX12_share_54

set_option maxHeartbeats 4000000 in
set_option maxRecDepth 100000 in
theorem c_m_X12_share {l : Launch} {D : va_G} {ad : Nat → Nat} {cy : ClassId} {σ : SS} {x1 : Int32} {r : Int64} {σ' : SS} (hf : f_m_X12_share σ x1 = some (r, σ')) : Ctr l D (mw ad cy) (mas ad) cy yX12_share cX12_share 3 (some FieldType.long) 2 45 [.ref (ad 0), .int x1] σ (some (.long r)) σ' := by
  refine Ctr.of (mw_as ad cy) rfl (Nat.le_of_ble_eq_true rfl) (fun p e s m args below meth c ls E hr hlk hl hG => ?_)
  have hl : lv_has ls 3 [(0, .ref (ad 0)), (1, .int x1)] := hl
  unfold f_m_X12_share at hf
  refine lv_aload_n E.1 E.2.1 dX12_share_0 rfl (lv_at hl 0 rfl) ?_
  obtain ⟨r1, σ1, hcl, hf⟩ := bd_some hf
  refine cl_V (rest := []) (st1 := [.int r1]) (As := []) E hG (c_m_X12_sumOfWeights hcl) Wd_897 mi_X12_sumOfWeights ⟨Nat.le_of_ble_eq_true rfl, Nat.le_of_ble_eq_true rfl, Nat.zero_le _, Nat.zero_le _⟩ 13 0 rfl rfl rfl hl.1 rfl (Nat.le_of_ble_eq_true rfl) dX12_share_1 rfl (fun H locs hG => ?_)
  refine lv_istore_n (lv' := [(2, .int r1), (0, .ref (ad 0)), (1, .int x1)]) E.1 E.2.1 dX12_share_4 rfl hl (by decide) rfl (fun ls hl => ?_)
  refine lv_aload_n E.1 E.2.1 dX12_share_5 rfl (lv_at hl 1 rfl) ?_
  refine lv_iload_n E.1 E.2.1 dX12_share_6 rfl (lv_at hl 2 rfl) ?_
  obtain ⟨r7, σ7, hcl, hf⟩ := bd_some hf
  refine cl_S (rest := [.ref (ad 0)]) (st1 := [.int r7, .ref (ad 0)]) (As := [.int x1]) E hG (c_m_X12_isSign hcl) Wd_833 mi_X12_isSign ⟨Nat.le_of_ble_eq_true rfl, Nat.le_of_ble_eq_true rfl, Nat.zero_le _, Nat.zero_le _⟩ rfl hl.1 rfl (Nat.le_of_ble_eq_true rfl) dX12_share_7 rfl (fun H locs hG => ?_)
  refine lv_if_ne (tgt := 17) E.1 E.2.1 dX12_share_10 (by decide) (fun hc => ?_) (fun hc => ?_)
  · replace hf := (if_neg hc).symm.trans hf
    refine lv_iload_n E.1 E.2.1 dX12_share_17 rfl (lv_at hl 0 rfl) ?_
    refine lv_if_ne (tgt := 25) E.1 E.2.1 dX12_share_18 (by decide) (fun hc => ?_) (fun hc => ?_)
    · replace hf := (if_neg hc).symm.trans hf
      refine lv_iconst (v := (0 : Int32)) E.1 E.2.1 dX12_share_25 (by decide) ?_
      exact k_m_X12_share_26 E hr hlk _ _ _ _ hf _ _ _ hG (lv_sub hl [1, 2, 0] rfl)
    · replace hf := (if_pos hc).symm.trans hf
      refine lv_iconst (v := (1 : Int32)) E.1 E.2.1 dX12_share_21 (by decide) ?_
      refine lv_goto (tgt := 26) E.1 E.2.1 dX12_share_22 (by decide) ?_
      exact k_m_X12_share_26 E hr hlk _ _ _ _ hf _ _ _ hG (lv_sub hl [1, 2, 0] rfl)
  · replace hf := (if_pos hc).symm.trans hf
    refine lv_iconst (v := (2 : Int32)) E.1 E.2.1 dX12_share_13 (by decide) ?_
    refine lv_goto (tgt := 26) E.1 E.2.1 dX12_share_14 (by decide) ?_
    exact k_m_X12_share_26 E hr hlk _ _ _ _ hf _ _ _ hG (lv_sub hl [1, 2, 0] rfl)

set_option maxHeartbeats 4000000 in
set_option maxRecDepth 100000 in
theorem c_m_X12_costOf {l : Launch} {D : va_G} {ad : Nat → Nat} {cy : ClassId} {σ : SS} {x0 : Int32} {x1 : Int32} {x2 : Int32} {x3 : Int32} {r : Int64} {σ' : SS} (hf : f_m_X12_costOf σ x0 x1 x2 x3 = some (r, σ')) : Ctr l D (mw ad cy) (mas ad) cy yX12_costOf cX12_costOf 6 (some FieldType.long) 2 50 [.int x0, .int x1, .int x2, .int x3] σ (some (.long r)) σ' := by
  refine Ctr.of (mw_as ad cy) rfl (Nat.le_of_ble_eq_true rfl) (fun p e s m args below meth c ls E hr hlk hl hG => ?_)
  have hl : lv_has ls 6 [(0, .int x0), (1, .int x1), (2, .int x2), (3, .int x3)] := hl
  unfold f_m_X12_costOf at hf
  refine lv_iload_n E.1 E.2.1 dX12_costOf_0 rfl (lv_at hl 0 rfl) ?_
  refine lv_iload_n E.1 E.2.1 dX12_costOf_1 rfl (lv_at hl 1 rfl) ?_
  refine lv_icmp_ne (tgt := 7) E.1 E.2.1 dX12_costOf_2 (by decide) (fun hc => ?_) (fun hc => ?_)
  · replace hf := (if_neg hc).symm.trans hf
    refine lv_iload_n E.1 E.2.1 dX12_costOf_7 rfl (lv_at hl 3 rfl) ?_
    refine lv_iconst (v := (1 : Int32)) E.1 E.2.1 dX12_costOf_8 (by decide) ?_
    refine lv_icmp_ne (tgt := 24) E.1 E.2.1 dX12_costOf_9 (by decide) (fun hc => ?_) (fun hc => ?_)
    · replace hf := (if_neg hc).symm.trans hf
      refine lv_iload_n E.1 E.2.1 dX12_costOf_24 rfl (lv_at hl 1 rfl) ?_
      refine lv_iload_n E.1 E.2.1 dX12_costOf_25 rfl (lv_at hl 2 rfl) ?_
      obtain ⟨r26, σ26, hcl, hf⟩ := bd_some hf
      refine cl_S (rest := []) (st1 := [.long r26]) (As := [.int x1, .int x2]) E hG (c_m_X12_lowLog hcl) Wd_876 mi_X12_lowLog ⟨Nat.le_of_ble_eq_true rfl, Nat.le_of_ble_eq_true rfl, Nat.zero_le _, Nat.zero_le _⟩ rfl hl.1 rfl (Nat.le_of_ble_eq_true rfl) dX12_costOf_26 rfl (fun H locs hG => ?_)
      refine lv_iload_n E.1 E.2.1 dX12_costOf_29 rfl (lv_at hl 0 rfl) ?_
      refine lv_iload_n E.1 E.2.1 dX12_costOf_30 rfl (lv_at hl 2 rfl) ?_
      obtain ⟨r31, σ31, hcl, hf⟩ := bd_some hf
      refine cl_S (rest := [.long r26]) (st1 := [.long r31, .long r26]) (As := [.int x0, .int x2]) E hG (c_m_X12_highLog hcl) Wd_885 mi_X12_highLog ⟨Nat.le_of_ble_eq_true rfl, Nat.le_of_ble_eq_true rfl, Nat.zero_le _, Nat.zero_le _⟩ rfl hl.1 rfl (Nat.le_of_ble_eq_true rfl) dX12_costOf_31 rfl (fun H locs hG => ?_)
      refine lv_lsub E.1 E.2.1 dX12_costOf_34 ?_
      refine lv_lstore (lv' := [(4, .long (r26 - r31)), (0, .int x0), (1, .int x1), (2, .int x2), (3, .int x3)]) E.1 E.2.1 dX12_costOf_35 hl (by decide) rfl (fun ls hl => ?_)
      refine lv_lload E.1 E.2.1 dX12_costOf_37 (lv_at hl 0 rfl) ?_
      refine lv_lconst (v := (0 : Int64)) E.1 E.2.1 dX12_costOf_39 (by decide) ?_
      refine W.lcmp E.1 E.2.1 dX12_costOf_40 ?_
      refine lv_if_ge (tgt := 48) E.1 E.2.1 dX12_costOf_41 (by decide) (fun hc => ?_) (fun hc => ?_)
      · replace hf := (if_pos hc).symm.trans hf
        refine lv_lload E.1 E.2.1 dX12_costOf_48 (lv_at hl 0 rfl) ?_
        exact r_l E hr hlk hG hf dX12_costOf_50
      · replace hf := (if_neg hc).symm.trans hf
        refine lv_lconst (v := (0 : Int64)) E.1 E.2.1 dX12_costOf_44 (by decide) ?_
        refine lv_goto (tgt := 50) E.1 E.2.1 dX12_costOf_45 (by decide) ?_
        exact r_l E hr hlk hG hf dX12_costOf_50
    · replace hf := (if_pos hc).symm.trans hf
      refine lv_iload_n E.1 E.2.1 dX12_costOf_12 rfl (lv_at hl 1 rfl) ?_
      refine lv_iload_n E.1 E.2.1 dX12_costOf_13 rfl (lv_at hl 2 rfl) ?_
      obtain ⟨r14, σ14, hcl, hf⟩ := bd_some hf
      refine cl_S (rest := []) (st1 := [.long r14]) (As := [.int x1, .int x2]) E hG (c_m_X12_highLog hcl) Wd_885 mi_X12_highLog ⟨Nat.le_of_ble_eq_true rfl, Nat.le_of_ble_eq_true rfl, Nat.zero_le _, Nat.zero_le _⟩ rfl hl.1 rfl (Nat.le_of_ble_eq_true rfl) dX12_costOf_14 rfl (fun H locs hG => ?_)
      refine lv_iload_n E.1 E.2.1 dX12_costOf_17 rfl (lv_at hl 0 rfl) ?_
      refine lv_iload_n E.1 E.2.1 dX12_costOf_18 rfl (lv_at hl 2 rfl) ?_
      obtain ⟨r19, σ19, hcl, hf⟩ := bd_some hf
      refine cl_S (rest := [.long r14]) (st1 := [.long r19, .long r14]) (As := [.int x0, .int x2]) E hG (c_m_X12_lowLog hcl) Wd_876 mi_X12_lowLog ⟨Nat.le_of_ble_eq_true rfl, Nat.le_of_ble_eq_true rfl, Nat.zero_le _, Nat.zero_le _⟩ rfl hl.1 rfl (Nat.le_of_ble_eq_true rfl) dX12_costOf_19 rfl (fun H locs hG => ?_)
      refine lv_lsub E.1 E.2.1 dX12_costOf_22 ?_
      exact r_l E hr hlk hG hf dX12_costOf_23
  · replace hf := (if_pos hc).symm.trans hf
    refine lv_lconst (v := (0 : Int64)) E.1 E.2.1 dX12_costOf_5 (by decide) ?_
    exact r_l E hr hlk hG hf dX12_costOf_6

set_option maxHeartbeats 4000000 in
set_option maxRecDepth 100000 in
theorem k_m_X12_content_21 {p : Program} {l : Launch} {e : Env} {s : State} {m : MethodId} {args : Array Value} {below : List Frame} {meth : Method} {c : Code} {D : va_G} {ad : Nat → Nat} {cy : ClassId} {r : Int64} {σ' : SS} (E : CallFix p m c cX12_content 8 s args TT yX12_content.cls) (hr : meth.sig.returnType = (some FieldType.long)) (hlk : meth.locks = false) (g9 : SS → Int32 → Int32 → Int64 → Int32 → Option (Int64 × SS)) (hg9 : ∀ (σ : SS) (x1 : Int32) (x2 : Int32) (x3 : Int64) (x5 : Int32), g9 σ x1 x2 x3 x5 = some (r, σ') → At p l e 3 75 s m args below meth c D (mw ad cy) (mas ad) cy (some (.long r)) σ' 8 9 [(0, .ref (ad 0)), (1, .int x1), (2, .int x2), (3, .long x3), (5, .int x5)] [] σ) (g21 : SS → Int32 → Int32 → Int64 → Int32 → Int32 → Option (Int64 × SS)) (hg21 : ∀ (σ : SS) (x1 : Int32) (x2 : Int32) (x3 : Int64) (x5 : Int32) (x6 : Int32), g21 σ x1 x2 x3 x5 x6 = some (r, σ') → At p l e 3 75 s m args below meth c D (mw ad cy) (mas ad) cy (some (.long r)) σ' 8 21 [(0, .ref (ad 0)), (1, .int x1), (2, .int x2), (3, .long x3), (5, .int x5), (6, .int x6)] [] σ) : ∀ (σ : SS) (x1 : Int32) (x2 : Int32) (x3 : Int64) (x5 : Int32) (x6 : Int32), f_m_X12_content_21 g9 g21 σ x1 x2 x3 x5 x6 = some (r, σ') → At p l e 3 75 s m args below meth c D (mw ad cy) (mas ad) cy (some (.long r)) σ' 8 21 [(0, .ref (ad 0)), (1, .int x1), (2, .int x2), (3, .long x3), (5, .int x5), (6, .int x6)] [] σ := by
  intro σ x1 x2 x3 x5 x6 hf H locs ls hG hl
  unfold f_m_X12_content_21 at hf
  refine lv_iload E.1 E.2.1 dX12_content_21 (lv_at hl 5 rfl) ?_
  refine lv_bipush (v := (16 : Int32)) E.1 E.2.1 dX12_content_23 (by decide) ?_
  refine lv_icmp_ge (tgt := 75) E.1 E.2.1 dX12_content_25 (by decide) (fun hc => ?_) (fun hc => ?_)
  · replace hf := (if_pos hc).symm.trans hf
    refine lv_iinc (v := (x5 + (1 : Int32))) (lv' := [(5, .int (x5 + (1 : Int32))), (0, .ref (ad 0)), (1, .int x1), (2, .int x2), (3, .long x3), (6, .int x6)]) E.1 E.2.1 dX12_content_75 hl (k := 4) rfl rfl (by decide) rfl (fun ls hl => ?_)
    refine lv_goto (tgt := 9) E.1 E.2.1 dX12_content_78 (by decide) ?_
    exact hg9 _ _ _ _ _ hf _ _ _ hG (lv_sub hl [1, 2, 3, 4, 0] rfl)
  · replace hf := (if_neg hc).symm.trans hf
    refine lv_aload_n E.1 E.2.1 dX12_content_28 rfl (lv_at hl 0 rfl) ?_
    refine fg_m_X12_19_0 E hG dX12_content_29 ?_
    refine lv_bipush (v := (16 : Int32)) E.1 E.2.1 dX12_content_32 (by decide) ?_
    refine lv_iload E.1 E.2.1 dX12_content_34 (lv_at hl 4 rfl) ?_
    refine lv_imul E.1 E.2.1 dX12_content_36 ?_
    refine lv_iload E.1 E.2.1 dX12_content_37 (lv_at hl 5 rfl) ?_
    refine lv_iadd E.1 E.2.1 dX12_content_39 ?_
    obtain ⟨hin, hf⟩ := gd_some hf
    refine al_m_4 E hG hin dX12_content_40 ?_
    refine lv_istore (lv' := [(7, .int (σ.2 3 (Int32.toNatClampNeg (((16 : Int32) * x5) + x6)))), (0, .ref (ad 0)), (1, .int x1), (2, .int x2), (3, .long x3), (5, .int x5), (6, .int x6)]) E.1 E.2.1 dX12_content_41 hl (by decide) rfl (fun ls hl => ?_)
    refine lv_iload E.1 E.2.1 dX12_content_43 (lv_at hl 0 rfl) ?_
    refine lv_if_le (tgt := 69) E.1 E.2.1 dX12_content_45 (by decide) (fun hc => ?_) (fun hc => ?_)
    · replace hf := (if_pos hc).symm.trans hf
      refine lv_iinc (v := (x6 + (1 : Int32))) (lv' := [(6, .int (x6 + (1 : Int32))), (7, .int (σ.2 3 (Int32.toNatClampNeg (((16 : Int32) * x5) + x6)))), (0, .ref (ad 0)), (1, .int x1), (2, .int x2), (3, .long x3), (5, .int x5)]) E.1 E.2.1 dX12_content_69 hl (k := 6) rfl rfl (by decide) rfl (fun ls hl => ?_)
      refine lv_goto (tgt := 21) E.1 E.2.1 dX12_content_72 (by decide) ?_
      exact hg21 _ _ _ _ _ _ hf _ _ _ hG (lv_sub hl [2, 3, 4, 5, 6, 0] rfl)
    · replace hf := (if_neg hc).symm.trans hf
      refine lv_lload_n E.1 E.2.1 dX12_content_48 rfl (lv_at hl 4 rfl) ?_
      refine lv_iload E.1 E.2.1 dX12_content_49 (lv_at hl 0 rfl) ?_
      refine lv_i2l E.1 E.2.1 dX12_content_51 rfl ?_
      refine lv_iload E.1 E.2.1 dX12_content_52 (lv_at hl 0 rfl) ?_
      refine lv_aload_n E.1 E.2.1 dX12_content_54 rfl (lv_at hl 1 rfl) ?_
      refine fg_m_X12_22_0 E hG dX12_content_55 ?_
      refine lv_iload E.1 E.2.1 dX12_content_58 (lv_at hl 5 rfl) ?_
      obtain ⟨hin, hf⟩ := gd_some hf
      refine al_m_5 E hG hin dX12_content_60 ?_
      refine lv_iload_n E.1 E.2.1 dX12_content_61 rfl (lv_at hl 2 rfl) ?_
      refine lv_iload_n E.1 E.2.1 dX12_content_62 rfl (lv_at hl 3 rfl) ?_
      obtain ⟨r63, σ63, hcl, hf⟩ := bd_some hf
      refine cl_S (rest := [.long (Int32.toInt64 (σ.2 3 (Int32.toNatClampNeg (((16 : Int32) * x5) + x6)))), .long x3]) (st1 := [.long r63, .long (Int32.toInt64 (σ.2 3 (Int32.toNatClampNeg (((16 : Int32) * x5) + x6)))), .long x3]) (As := [.int (σ.2 3 (Int32.toNatClampNeg (((16 : Int32) * x5) + x6))), .int (σ.2 4 (Int32.toNatClampNeg x5)), .int x1, .int x2]) E hG (c_m_X12_costOf hcl) Wd_914 mi_X12_costOf ⟨Nat.le_of_ble_eq_true rfl, Nat.le_of_ble_eq_true rfl, Nat.zero_le _, Nat.zero_le _⟩ rfl hl.1 rfl (Nat.le_of_ble_eq_true rfl) dX12_content_63 rfl (fun H locs hG => ?_)
      refine lv_lmul E.1 E.2.1 dX12_content_66 ?_
      refine lv_ladd E.1 E.2.1 dX12_content_67 ?_
      refine lv_lstore_n (lv' := [(3, .long (x3 + ((Int32.toInt64 (σ.2 3 (Int32.toNatClampNeg (((16 : Int32) * x5) + x6)))) * r63))), (7, .int (σ.2 3 (Int32.toNatClampNeg (((16 : Int32) * x5) + x6)))), (0, .ref (ad 0)), (1, .int x1), (2, .int x2), (5, .int x5), (6, .int x6)]) E.1 E.2.1 dX12_content_68 rfl hl (by decide) rfl (fun ls hl => ?_)
      refine lv_iinc (v := (x6 + (1 : Int32))) (lv' := [(6, .int (x6 + (1 : Int32))), (3, .long (x3 + ((Int32.toInt64 (σ.2 3 (Int32.toNatClampNeg (((16 : Int32) * x5) + x6)))) * r63))), (7, .int (σ.2 3 (Int32.toNatClampNeg (((16 : Int32) * x5) + x6)))), (0, .ref (ad 0)), (1, .int x1), (2, .int x2), (5, .int x5)]) E.1 E.2.1 dX12_content_69 hl (k := 6) rfl rfl (by decide) rfl (fun ls hl => ?_)
      refine lv_goto (tgt := 21) E.1 E.2.1 dX12_content_72 (by decide) ?_
      exact hg21 _ _ _ _ _ _ hf _ _ _ hG (lv_sub hl [3, 4, 5, 1, 6, 0] rfl)

set_option maxHeartbeats 4000000 in
set_option maxRecDepth 100000 in
theorem k_m_X12_content_9 {p : Program} {l : Launch} {e : Env} {s : State} {m : MethodId} {args : Array Value} {below : List Frame} {meth : Method} {c : Code} {D : va_G} {ad : Nat → Nat} {cy : ClassId} {r : Int64} {σ' : SS} (E : CallFix p m c cX12_content 8 s args TT yX12_content.cls) (hr : meth.sig.returnType = (some FieldType.long)) (hlk : meth.locks = false) (g9 : SS → Int32 → Int32 → Int64 → Int32 → Option (Int64 × SS)) (hg9 : ∀ (σ : SS) (x1 : Int32) (x2 : Int32) (x3 : Int64) (x5 : Int32), g9 σ x1 x2 x3 x5 = some (r, σ') → At p l e 3 75 s m args below meth c D (mw ad cy) (mas ad) cy (some (.long r)) σ' 8 9 [(0, .ref (ad 0)), (1, .int x1), (2, .int x2), (3, .long x3), (5, .int x5)] [] σ) : ∀ (σ : SS) (x1 : Int32) (x2 : Int32) (x3 : Int64) (x5 : Int32), f_m_X12_content_9 g9 σ x1 x2 x3 x5 = some (r, σ') → At p l e 3 75 s m args below meth c D (mw ad cy) (mas ad) cy (some (.long r)) σ' 8 9 [(0, .ref (ad 0)), (1, .int x1), (2, .int x2), (3, .long x3), (5, .int x5)] [] σ := by
  intro σ x1 x2 x3 x5 hf H locs ls hG hl
  unfold f_m_X12_content_9 at hf
  refine lv_iload E.1 E.2.1 dX12_content_9 (lv_at hl 4 rfl) ?_
  refine lv_aload_n E.1 E.2.1 dX12_content_11 rfl (lv_at hl 0 rfl) ?_
  refine fg_m_X12_78_0 E hG dX12_content_12 ?_
  refine lv_icmp_ge (tgt := 81) E.1 E.2.1 dX12_content_15 (by decide) (fun hc => ?_) (fun hc => ?_)
  · replace hf := (if_pos hc).symm.trans hf
    refine lv_lload_n E.1 E.2.1 dX12_content_81 rfl (lv_at hl 3 rfl) ?_
    exact r_l E hr hlk hG hf dX12_content_82
  · replace hf := (if_neg hc).symm.trans hf
    refine lv_iconst (v := (0 : Int32)) E.1 E.2.1 dX12_content_18 (by decide) ?_
    refine lv_istore (lv' := [(6, .int (0 : Int32)), (0, .ref (ad 0)), (1, .int x1), (2, .int x2), (3, .long x3), (5, .int x5)]) E.1 E.2.1 dX12_content_19 hl (by decide) rfl (fun ls hl => ?_)
    exact L5_at (P := fun σ x1 x2 x3 x5 x6 => At p l e 3 75 s m args below meth c D (mw ad cy) (mas ad) cy (some (.long r)) σ' 8 21 [(0, .ref (ad 0)), (1, .int x1), (2, .int x2), (3, .long x3), (5, .int x5), (6, .int x6)] [] σ) (fun g hg => k_m_X12_content_21 E hr hlk g9 hg9 g hg) FUEL _ _ _ _ _ _ hf _ _ _ hG (lv_sub hl [1, 2, 3, 4, 5, 0] rfl)

set_option maxHeartbeats 4000000 in
set_option maxRecDepth 100000 in
theorem c_m_X12_content {l : Launch} {D : va_G} {ad : Nat → Nat} {cy : ClassId} {σ : SS} {x1 : Int32} {x2 : Int32} {r : Int64} {σ' : SS} (hf : f_m_X12_content σ x1 x2 = some (r, σ')) : Ctr l D (mw ad cy) (mas ad) cy yX12_content cX12_content 8 (some FieldType.long) 3 75 [.ref (ad 0), .int x1, .int x2] σ (some (.long r)) σ' := by
  refine Ctr.of (mw_as ad cy) rfl (Nat.le_of_ble_eq_true rfl) (fun p e s m args below meth c ls E hr hlk hl hG => ?_)
  have hl : lv_has ls 8 [(0, .ref (ad 0)), (1, .int x1), (2, .int x2)] := hl
  unfold f_m_X12_content at hf
  refine lv_aload_n E.1 E.2.1 dX12_content_0 rfl (lv_at hl 0 rfl) ?_
  obtain ⟨r1, σ1, hcl, hf⟩ := bd_some hf
  refine cl_V (rest := []) (st1 := []) (As := []) E hG (c_m_X12_findContexts hcl) Wd_853 mi_X12_findContexts ⟨Nat.le_of_ble_eq_true rfl, Nat.le_of_ble_eq_true rfl, Nat.zero_le _, Nat.zero_le _⟩ 13 0 rfl rfl rfl hl.1 rfl (Nat.le_of_ble_eq_true rfl) dX12_content_1 rfl (fun H locs hG => ?_)
  refine lv_lconst (v := (0 : Int64)) E.1 E.2.1 dX12_content_4 (by decide) ?_
  refine lv_lstore_n (lv' := [(3, .long (0 : Int64)), (0, .ref (ad 0)), (1, .int x1), (2, .int x2)]) E.1 E.2.1 dX12_content_5 rfl hl (by decide) rfl (fun ls hl => ?_)
  refine lv_iconst (v := (0 : Int32)) E.1 E.2.1 dX12_content_6 (by decide) ?_
  refine lv_istore (lv' := [(5, .int (0 : Int32)), (3, .long (0 : Int64)), (0, .ref (ad 0)), (1, .int x1), (2, .int x2)]) E.1 E.2.1 dX12_content_7 hl (by decide) rfl (fun ls hl => ?_)
  exact L4_at (P := fun σ x1 x2 x3 x5 => At p l e 3 75 s m args below meth c D (mw ad cy) (mas ad) cy (some (.long r)) σ' 8 9 [(0, .ref (ad 0)), (1, .int x1), (2, .int x2), (3, .long x3), (5, .int x5)] [] σ) (fun g hg => k_m_X12_content_9 E hr hlk g hg) FUEL _ _ _ _ _ hf _ _ _ hG (lv_sub hl [2, 3, 4, 1, 0] rfl)

set_option maxHeartbeats 4000000 in
set_option maxRecDepth 100000 in
theorem k_m_X12_often_5 {p : Program} {l : Launch} {e : Env} {s : State} {m : MethodId} {args : Array Value} {below : List Frame} {meth : Method} {c : Code} {D : va_G} {ad : Nat → Nat} {cy : ClassId} {r : Int32} {σ' : SS} (E : CallFix p m c cX12_often 5 s args TT yX12_often.cls) (hr : meth.sig.returnType = (some FieldType.int)) (hlk : meth.locks = false) (g5 : SS → Int32 → Int32 → Int32 → Int32 → Option (Int32 × SS)) (hg5 : ∀ (σ : SS) (x1 : Int32) (x2 : Int32) (x3 : Int32) (x4 : Int32), g5 σ x1 x2 x3 x4 = some (r, σ') → At p l e 0 0 s m args below meth c D (mw ad cy) (mas ad) cy (some (.int r)) σ' 5 5 [(0, .ref (ad 0)), (1, .int x1), (2, .int x2), (3, .int x3), (4, .int x4)] [] σ) : ∀ (σ : SS) (x1 : Int32) (x2 : Int32) (x3 : Int32) (x4 : Int32), f_m_X12_often_5 g5 σ x1 x2 x3 x4 = some (r, σ') → At p l e 0 0 s m args below meth c D (mw ad cy) (mas ad) cy (some (.int r)) σ' 5 5 [(0, .ref (ad 0)), (1, .int x1), (2, .int x2), (3, .int x3), (4, .int x4)] [] σ := by
  intro σ x1 x2 x3 x4 hf H locs ls hG hl
  unfold f_m_X12_often_5 at hf
  refine lv_iload E.1 E.2.1 dX12_often_5 (lv_at hl 4 rfl) ?_
  refine lv_iload_n E.1 E.2.1 dX12_often_7 rfl (lv_at hl 2 rfl) ?_
  refine lv_icmp_ge (tgt := 36) E.1 E.2.1 dX12_often_8 (by decide) (fun hc => ?_) (fun hc => ?_)
  · replace hf := (if_pos hc).symm.trans hf
    refine lv_iload_n E.1 E.2.1 dX12_often_36 rfl (lv_at hl 3 rfl) ?_
    exact r_i E hr hlk hG hf dX12_often_37
  · replace hf := (if_neg hc).symm.trans hf
    refine lv_iload_n E.1 E.2.1 dX12_often_11 rfl (lv_at hl 3 rfl) ?_
    refine lv_aload_n E.1 E.2.1 dX12_often_12 rfl (lv_at hl 0 rfl) ?_
    refine fg_m_X12_7_0 E hG dX12_often_13 ?_
    refine lv_iload E.1 E.2.1 dX12_often_16 (lv_at hl 4 rfl) ?_
    obtain ⟨hin, hf⟩ := gd_some hf
    refine al_m_1 E hG hin dX12_often_18 ?_
    refine lv_iload_n E.1 E.2.1 dX12_often_19 rfl (lv_at hl 1 rfl) ?_
    refine lv_icmp_ne (tgt := 27) E.1 E.2.1 dX12_often_20 (by decide) (fun hc => ?_) (fun hc => ?_)
    · replace hf := (if_neg hc).symm.trans hf
      refine lv_iconst (v := (0 : Int32)) E.1 E.2.1 dX12_often_27 (by decide) ?_
      refine lv_iadd E.1 E.2.1 dX12_often_28 ?_
      refine lv_istore_n (lv' := [(3, .int (x3 + (0 : Int32))), (0, .ref (ad 0)), (1, .int x1), (2, .int x2), (4, .int x4)]) E.1 E.2.1 dX12_often_29 rfl hl (by decide) rfl (fun ls hl => ?_)
      refine lv_iinc (v := (x4 + (1 : Int32))) (lv' := [(4, .int (x4 + (1 : Int32))), (3, .int (x3 + (0 : Int32))), (0, .ref (ad 0)), (1, .int x1), (2, .int x2)]) E.1 E.2.1 dX12_often_30 hl (k := 4) rfl rfl (by decide) rfl (fun ls hl => ?_)
      refine lv_goto (tgt := 5) E.1 E.2.1 dX12_often_33 (by decide) ?_
      exact hg5 _ _ _ _ _ hf _ _ _ hG (lv_sub hl [2, 3, 4, 1, 0] rfl)
    · replace hf := (if_pos hc).symm.trans hf
      refine lv_iconst (v := (1 : Int32)) E.1 E.2.1 dX12_often_23 (by decide) ?_
      refine lv_goto (tgt := 28) E.1 E.2.1 dX12_often_24 (by decide) ?_
      refine lv_iadd E.1 E.2.1 dX12_often_28 ?_
      refine lv_istore_n (lv' := [(3, .int (x3 + (1 : Int32))), (0, .ref (ad 0)), (1, .int x1), (2, .int x2), (4, .int x4)]) E.1 E.2.1 dX12_often_29 rfl hl (by decide) rfl (fun ls hl => ?_)
      refine lv_iinc (v := (x4 + (1 : Int32))) (lv' := [(4, .int (x4 + (1 : Int32))), (3, .int (x3 + (1 : Int32))), (0, .ref (ad 0)), (1, .int x1), (2, .int x2)]) E.1 E.2.1 dX12_often_30 hl (k := 4) rfl rfl (by decide) rfl (fun ls hl => ?_)
      refine lv_goto (tgt := 5) E.1 E.2.1 dX12_often_33 (by decide) ?_
      exact hg5 _ _ _ _ _ hf _ _ _ hG (lv_sub hl [2, 3, 4, 1, 0] rfl)

set_option maxHeartbeats 4000000 in
set_option maxRecDepth 100000 in
theorem c_m_X12_often {l : Launch} {D : va_G} {ad : Nat → Nat} {cy : ClassId} {σ : SS} {x1 : Int32} {x2 : Int32} {r : Int32} {σ' : SS} (hf : f_m_X12_often σ x1 x2 = some (r, σ')) : Ctr l D (mw ad cy) (mas ad) cy yX12_often cX12_often 5 (some FieldType.int) 0 0 [.ref (ad 0), .int x1, .int x2] σ (some (.int r)) σ' := by
  refine Ctr.of (mw_as ad cy) rfl (Nat.le_of_ble_eq_true rfl) (fun p e s m args below meth c ls E hr hlk hl hG => ?_)
  have hl : lv_has ls 5 [(0, .ref (ad 0)), (1, .int x1), (2, .int x2)] := hl
  unfold f_m_X12_often at hf
  refine lv_iconst (v := (0 : Int32)) E.1 E.2.1 dX12_often_0 (by decide) ?_
  refine lv_istore_n (lv' := [(3, .int (0 : Int32)), (0, .ref (ad 0)), (1, .int x1), (2, .int x2)]) E.1 E.2.1 dX12_often_1 rfl hl (by decide) rfl (fun ls hl => ?_)
  refine lv_iconst (v := (0 : Int32)) E.1 E.2.1 dX12_often_2 (by decide) ?_
  refine lv_istore (lv' := [(4, .int (0 : Int32)), (3, .int (0 : Int32)), (0, .ref (ad 0)), (1, .int x1), (2, .int x2)]) E.1 E.2.1 dX12_often_3 hl (by decide) rfl (fun ls hl => ?_)
  exact L4_at (P := fun σ x1 x2 x3 x4 => At p l e 0 0 s m args below meth c D (mw ad cy) (mas ad) cy (some (.int r)) σ' 5 5 [(0, .ref (ad 0)), (1, .int x1), (2, .int x2), (3, .int x3), (4, .int x4)] [] σ) (fun g hg => k_m_X12_often_5 E hr hlk g hg) FUEL _ _ _ _ _ hf _ _ _ hG (lv_sub hl [2, 3, 4, 1, 0] rfl)

set_option maxHeartbeats 4000000 in
set_option maxRecDepth 100000 in
theorem k_m_X12_cross_49 {p : Program} {l : Launch} {e : Env} {s : State} {m : MethodId} {args : Array Value} {below : List Frame} {meth : Method} {c : Code} {D : va_G} {ad : Nat → Nat} {cy : ClassId} {r : Int64} {σ' : SS} (E : CallFix p m c cX12_cross 8 s args TT yX12_cross.cls) (hr : meth.sig.returnType = (some FieldType.long)) (hlk : meth.locks = false) (g11 : SS → Int32 → Int32 → Int32 → Int64 → Int32 → Option (Int64 × SS)) (hg11 : ∀ (σ : SS) (x1 : Int32) (x2 : Int32) (x3 : Int32) (x4 : Int64) (x6 : Int32), g11 σ x1 x2 x3 x4 x6 = some (r, σ') → At p l e 3 75 s m args below meth c D (mw ad cy) (mas ad) cy (some (.long r)) σ' 8 11 [(0, .ref (ad 0)), (1, .int x1), (2, .int x2), (3, .int x3), (4, .long x4), (6, .int x6)] [] σ) : ∀ (σ : SS) (x1 : Int32) (x2 : Int32) (x3 : Int32) (x4 : Int64) (x6 : Int32) (x7 : Int32), f_m_X12_cross_49 g11 σ x1 x2 x3 x4 x6 x7 = some (r, σ') → At p l e 3 75 s m args below meth c D (mw ad cy) (mas ad) cy (some (.long r)) σ' 8 49 [(0, .ref (ad 0)), (1, .int x1), (2, .int x2), (3, .int x3), (4, .long x4), (6, .int x6), (7, .int x7)] [] σ := by
  intro σ x1 x2 x3 x4 x6 x7 hf H locs ls hG hl
  unfold f_m_X12_cross_49 at hf
  refine lv_iload E.1 E.2.1 dX12_cross_49 (lv_at hl 6 rfl) ?_
  refine lv_if_le (tgt := 76) E.1 E.2.1 dX12_cross_51 (by decide) (fun hc => ?_) (fun hc => ?_)
  · replace hf := (if_pos hc).symm.trans hf
    refine lv_iinc (v := (x6 + (1 : Int32))) (lv' := [(6, .int (x6 + (1 : Int32))), (0, .ref (ad 0)), (1, .int x1), (2, .int x2), (3, .int x3), (4, .long x4), (7, .int x7)]) E.1 E.2.1 dX12_cross_76 hl (k := 5) rfl rfl (by decide) rfl (fun ls hl => ?_)
    refine lv_goto (tgt := 11) E.1 E.2.1 dX12_cross_79 (by decide) ?_
    exact hg11 _ _ _ _ _ _ hf _ _ _ hG (lv_sub hl [1, 2, 3, 4, 5, 0] rfl)
  · replace hf := (if_neg hc).symm.trans hf
    refine lv_lload E.1 E.2.1 dX12_cross_54 (lv_at hl 4 rfl) ?_
    refine lv_iload E.1 E.2.1 dX12_cross_56 (lv_at hl 6 rfl) ?_
    refine lv_i2l E.1 E.2.1 dX12_cross_58 rfl ?_
    refine lv_aload_n E.1 E.2.1 dX12_cross_59 rfl (lv_at hl 0 rfl) ?_
    refine fg_m_X12_13_0 E hG dX12_cross_60 ?_
    refine lv_iload E.1 E.2.1 dX12_cross_63 (lv_at hl 5 rfl) ?_
    obtain ⟨hin, hf⟩ := gd_some hf
    refine al_m_2 E hG hin dX12_cross_65 ?_
    refine lv_iload_n E.1 E.2.1 dX12_cross_66 rfl (lv_at hl 3 rfl) ?_
    refine lv_iload_n E.1 E.2.1 dX12_cross_67 rfl (lv_at hl 1 rfl) ?_
    refine lv_iload_n E.1 E.2.1 dX12_cross_68 rfl (lv_at hl 2 rfl) ?_
    obtain ⟨r69, σ69, hcl, hf⟩ := bd_some hf
    refine cl_S (rest := [.long (Int32.toInt64 x7), .long x4]) (st1 := [.long r69, .long (Int32.toInt64 x7), .long x4]) (As := [.int (σ.2 1 (Int32.toNatClampNeg x6)), .int x3, .int x1, .int x2]) E hG (c_m_X12_costOf hcl) Wd_914 mi_X12_costOf ⟨Nat.le_of_ble_eq_true rfl, Nat.le_of_ble_eq_true rfl, Nat.zero_le _, Nat.zero_le _⟩ rfl hl.1 rfl (Nat.le_of_ble_eq_true rfl) dX12_cross_69 rfl (fun H locs hG => ?_)
    refine lv_lmul E.1 E.2.1 dX12_cross_72 ?_
    refine lv_ladd E.1 E.2.1 dX12_cross_73 ?_
    refine lv_lstore (lv' := [(4, .long (x4 + ((Int32.toInt64 x7) * r69))), (0, .ref (ad 0)), (1, .int x1), (2, .int x2), (3, .int x3), (6, .int x6), (7, .int x7)]) E.1 E.2.1 dX12_cross_74 hl (by decide) rfl (fun ls hl => ?_)
    refine lv_iinc (v := (x6 + (1 : Int32))) (lv' := [(6, .int (x6 + (1 : Int32))), (4, .long (x4 + ((Int32.toInt64 x7) * r69))), (0, .ref (ad 0)), (1, .int x1), (2, .int x2), (3, .int x3), (7, .int x7)]) E.1 E.2.1 dX12_cross_76 hl (k := 5) rfl rfl (by decide) rfl (fun ls hl => ?_)
    refine lv_goto (tgt := 11) E.1 E.2.1 dX12_cross_79 (by decide) ?_
    exact hg11 _ _ _ _ _ _ hf _ _ _ hG (lv_sub hl [2, 3, 4, 5, 1, 0] rfl)

set_option maxHeartbeats 4000000 in
set_option maxRecDepth 100000 in
theorem k_m_X12_cross_11 {p : Program} {l : Launch} {e : Env} {s : State} {m : MethodId} {args : Array Value} {below : List Frame} {meth : Method} {c : Code} {D : va_G} {ad : Nat → Nat} {cy : ClassId} {r : Int64} {σ' : SS} (E : CallFix p m c cX12_cross 8 s args TT yX12_cross.cls) (hr : meth.sig.returnType = (some FieldType.long)) (hlk : meth.locks = false) (g11 : SS → Int32 → Int32 → Int32 → Int64 → Int32 → Option (Int64 × SS)) (hg11 : ∀ (σ : SS) (x1 : Int32) (x2 : Int32) (x3 : Int32) (x4 : Int64) (x6 : Int32), g11 σ x1 x2 x3 x4 x6 = some (r, σ') → At p l e 3 75 s m args below meth c D (mw ad cy) (mas ad) cy (some (.long r)) σ' 8 11 [(0, .ref (ad 0)), (1, .int x1), (2, .int x2), (3, .int x3), (4, .long x4), (6, .int x6)] [] σ) : ∀ (σ : SS) (x1 : Int32) (x2 : Int32) (x3 : Int32) (x4 : Int64) (x6 : Int32), f_m_X12_cross_11 g11 σ x1 x2 x3 x4 x6 = some (r, σ') → At p l e 3 75 s m args below meth c D (mw ad cy) (mas ad) cy (some (.long r)) σ' 8 11 [(0, .ref (ad 0)), (1, .int x1), (2, .int x2), (3, .int x3), (4, .long x4), (6, .int x6)] [] σ := by
  intro σ x1 x2 x3 x4 x6 hf H locs ls hG hl
  unfold f_m_X12_cross_11 at hf
  refine lv_iload E.1 E.2.1 dX12_cross_11 (lv_at hl 5 rfl) ?_
  refine lv_bipush (v := (16 : Int32)) E.1 E.2.1 dX12_cross_13 (by decide) ?_
  refine lv_icmp_ge (tgt := 82) E.1 E.2.1 dX12_cross_15 (by decide) (fun hc => ?_) (fun hc => ?_)
  · replace hf := (if_pos hc).symm.trans hf
    refine lv_lload E.1 E.2.1 dX12_cross_82 (lv_at hl 4 rfl) ?_
    exact r_l E hr hlk hG hf dX12_cross_84
  · replace hf := (if_neg hc).symm.trans hf
    refine lv_aload_n E.1 E.2.1 dX12_cross_18 rfl (lv_at hl 0 rfl) ?_
    refine lv_iload E.1 E.2.1 dX12_cross_19 (lv_at hl 5 rfl) ?_
    refine lv_aload_n E.1 E.2.1 dX12_cross_21 rfl (lv_at hl 0 rfl) ?_
    refine fg_m_X12_72_0 E hG dX12_cross_22 ?_
    obtain ⟨r25, σ25, hcl, hf⟩ := bd_some hf
    refine cl_V (rest := []) (st1 := [.int r25]) (As := [.int x6, .int (σ.1 1)]) E hG (c_m_X12_often hcl) Wd_921 mi_X12_often ⟨Nat.le_of_ble_eq_true rfl, Nat.le_of_ble_eq_true rfl, Nat.zero_le _, Nat.zero_le _⟩ 13 0 rfl rfl rfl hl.1 rfl (Nat.le_of_ble_eq_true rfl) dX12_cross_25 rfl (fun H locs hG => ?_)
    refine lv_istore (lv' := [(7, .int r25), (0, .ref (ad 0)), (1, .int x1), (2, .int x2), (3, .int x3), (4, .long x4), (6, .int x6)]) E.1 E.2.1 dX12_cross_28 hl (by decide) rfl (fun ls hl => ?_)
    refine lv_iload E.1 E.2.1 dX12_cross_30 (lv_at hl 0 rfl) ?_
    refine lv_if_le (tgt := 49) E.1 E.2.1 dX12_cross_32 (by decide) (fun hc => ?_) (fun hc => ?_)
    · replace hf := (if_pos hc).symm.trans hf
      exact k_m_X12_cross_49 E hr hlk g11 hg11 _ _ _ _ _ _ _ hf _ _ _ hG (lv_sub hl [1, 2, 3, 4, 5, 6, 0] rfl)
    · replace hf := (if_neg hc).symm.trans hf
      refine lv_aload_n E.1 E.2.1 dX12_cross_35 rfl (lv_at hl 1 rfl) ?_
      refine fg_m_X12_13_0 E hG dX12_cross_36 ?_
      refine lv_iload E.1 E.2.1 dX12_cross_39 (lv_at hl 6 rfl) ?_
      obtain ⟨hin, hf⟩ := gd_some hf
      refine al_m_2 E hG hin dX12_cross_41 ?_
      refine lv_if_ne (tgt := 49) E.1 E.2.1 dX12_cross_42 (by decide) (fun hc => ?_) (fun hc => ?_)
      · replace hf := (if_neg hc).symm.trans hf
        exact k_m_X12_cross_49 E hr hlk g11 hg11 _ _ _ _ _ _ _ hf _ _ _ hG (lv_sub hl [1, 2, 3, 4, 5, 6, 0] rfl)
      · replace hf := (if_pos hc).symm.trans hf
        refine lv_ldc2 E.1 E.2.1 E.2.2.2.1 (E.2.2.2.2 _ Wd_925) dX12_cross_45 ?_
        exact r_l E hr hlk hG hf dX12_cross_48

set_option maxHeartbeats 4000000 in
set_option maxRecDepth 100000 in
theorem c_m_X12_cross {l : Launch} {D : va_G} {ad : Nat → Nat} {cy : ClassId} {σ : SS} {x1 : Int32} {x2 : Int32} {r : Int64} {σ' : SS} (hf : f_m_X12_cross σ x1 x2 = some (r, σ')) : Ctr l D (mw ad cy) (mas ad) cy yX12_cross cX12_cross 8 (some FieldType.long) 3 75 [.ref (ad 0), .int x1, .int x2] σ (some (.long r)) σ' := by
  refine Ctr.of (mw_as ad cy) rfl (Nat.le_of_ble_eq_true rfl) (fun p e s m args below meth c ls E hr hlk hl hG => ?_)
  have hl : lv_has ls 8 [(0, .ref (ad 0)), (1, .int x1), (2, .int x2)] := hl
  unfold f_m_X12_cross at hf
  refine lv_aload_n E.1 E.2.1 dX12_cross_0 rfl (lv_at hl 0 rfl) ?_
  obtain ⟨r1, σ1, hcl, hf⟩ := bd_some hf
  refine cl_V (rest := []) (st1 := [.int r1]) (As := []) E hG (c_m_X12_sumOfWeights hcl) Wd_897 mi_X12_sumOfWeights ⟨Nat.le_of_ble_eq_true rfl, Nat.le_of_ble_eq_true rfl, Nat.zero_le _, Nat.zero_le _⟩ 13 0 rfl rfl rfl hl.1 rfl (Nat.le_of_ble_eq_true rfl) dX12_cross_1 rfl (fun H locs hG => ?_)
  refine lv_istore_n (lv' := [(3, .int r1), (0, .ref (ad 0)), (1, .int x1), (2, .int x2)]) E.1 E.2.1 dX12_cross_4 rfl hl (by decide) rfl (fun ls hl => ?_)
  refine lv_lconst (v := (0 : Int64)) E.1 E.2.1 dX12_cross_5 (by decide) ?_
  refine lv_lstore (lv' := [(4, .long (0 : Int64)), (3, .int r1), (0, .ref (ad 0)), (1, .int x1), (2, .int x2)]) E.1 E.2.1 dX12_cross_6 hl (by decide) rfl (fun ls hl => ?_)
  refine lv_iconst (v := (0 : Int32)) E.1 E.2.1 dX12_cross_8 (by decide) ?_
  refine lv_istore (lv' := [(6, .int (0 : Int32)), (4, .long (0 : Int64)), (3, .int r1), (0, .ref (ad 0)), (1, .int x1), (2, .int x2)]) E.1 E.2.1 dX12_cross_9 hl (by decide) rfl (fun ls hl => ?_)
  exact L5_at (P := fun σ x1 x2 x3 x4 x6 => At p l e 3 75 s m args below meth c D (mw ad cy) (mas ad) cy (some (.long r)) σ' 8 11 [(0, .ref (ad 0)), (1, .int x1), (2, .int x2), (3, .int x3), (4, .long x4), (6, .int x6)] [] σ) (fun g hg => k_m_X12_cross_11 E hr hlk g hg) FUEL _ _ _ _ _ _ hf _ _ _ hG (lv_sub hl [3, 4, 5, 2, 1, 0] rfl)

set_option maxHeartbeats 4000000 in
set_option maxRecDepth 100000 in
theorem k_m_X12_growing_5 {p : Program} {l : Launch} {e : Env} {s : State} {m : MethodId} {args : Array Value} {below : List Frame} {meth : Method} {c : Code} {D : va_G} {ad : Nat → Nat} {cy : ClassId} {r : Int64} {σ' : SS} (E : CallFix p m c cX12_growing 6 s args TT yX12_growing.cls) (hr : meth.sig.returnType = (some FieldType.long)) (hlk : meth.locks = false) (g5 : SS → Int32 → Int32 → Int64 → Int32 → Option (Int64 × SS)) (hg5 : ∀ (σ : SS) (x1 : Int32) (x2 : Int32) (x3 : Int64) (x5 : Int32), g5 σ x1 x2 x3 x5 = some (r, σ') → At p l e 3 75 s m args below meth c D (mw ad cy) (mas ad) cy (some (.long r)) σ' 6 5 [(0, .ref (ad 0)), (1, .int x1), (2, .int x2), (3, .long x3), (5, .int x5)] [] σ) : ∀ (σ : SS) (x1 : Int32) (x2 : Int32) (x3 : Int64) (x5 : Int32), f_m_X12_growing_5 g5 σ x1 x2 x3 x5 = some (r, σ') → At p l e 3 75 s m args below meth c D (mw ad cy) (mas ad) cy (some (.long r)) σ' 6 5 [(0, .ref (ad 0)), (1, .int x1), (2, .int x2), (3, .long x3), (5, .int x5)] [] σ := by
  intro σ x1 x2 x3 x5 hf H locs ls hG hl
  unfold f_m_X12_growing_5 at hf
  refine lv_iload E.1 E.2.1 dX12_growing_5 (lv_at hl 4 rfl) ?_
  refine lv_aload_n E.1 E.2.1 dX12_growing_7 rfl (lv_at hl 0 rfl) ?_
  refine fg_m_X12_72_0 E hG dX12_growing_8 ?_
  refine lv_icmp_ge (tgt := 48) E.1 E.2.1 dX12_growing_11 (by decide) (fun hc => ?_) (fun hc => ?_)
  · replace hf := (if_pos hc).symm.trans hf
    refine lv_lload_n E.1 E.2.1 dX12_growing_48 rfl (lv_at hl 3 rfl) ?_
    exact r_l E hr hlk hG hf dX12_growing_49
  · replace hf := (if_neg hc).symm.trans hf
    refine lv_lload_n E.1 E.2.1 dX12_growing_14 rfl (lv_at hl 3 rfl) ?_
    refine lv_aload_n E.1 E.2.1 dX12_growing_15 rfl (lv_at hl 0 rfl) ?_
    refine lv_aload_n E.1 E.2.1 dX12_growing_16 rfl (lv_at hl 0 rfl) ?_
    refine fg_m_X12_7_0 E hG dX12_growing_17 ?_
    refine lv_iload E.1 E.2.1 dX12_growing_20 (lv_at hl 4 rfl) ?_
    obtain ⟨hin, hf⟩ := gd_some hf
    refine al_m_1 E hG hin dX12_growing_22 ?_
    refine lv_iload E.1 E.2.1 dX12_growing_23 (lv_at hl 4 rfl) ?_
    obtain ⟨r25, σ25, hcl, hf⟩ := bd_some hf
    refine cl_V (rest := [.long x3]) (st1 := [.int r25, .long x3]) (As := [.int (σ.2 0 (Int32.toNatClampNeg x5)), .int x5]) E hG (c_m_X12_often hcl) Wd_921 mi_X12_often ⟨Nat.le_of_ble_eq_true rfl, Nat.le_of_ble_eq_true rfl, Nat.zero_le _, Nat.zero_le _⟩ 13 0 rfl rfl rfl hl.1 rfl (Nat.le_of_ble_eq_true rfl) dX12_growing_25 rfl (fun H locs hG => ?_)
    refine lv_iconst (v := (1 : Int32)) E.1 E.2.1 dX12_growing_28 (by decide) ?_
    refine lv_iadd E.1 E.2.1 dX12_growing_29 ?_
    refine lv_iload E.1 E.2.1 dX12_growing_30 (lv_at hl 4 rfl) ?_
    refine lv_bipush (v := (16 : Int32)) E.1 E.2.1 dX12_growing_32 (by decide) ?_
    refine lv_iadd E.1 E.2.1 dX12_growing_34 ?_
    refine lv_iload_n E.1 E.2.1 dX12_growing_35 rfl (lv_at hl 1 rfl) ?_
    refine lv_iload_n E.1 E.2.1 dX12_growing_36 rfl (lv_at hl 2 rfl) ?_
    obtain ⟨r37, σ37, hcl, hf⟩ := bd_some hf
    refine cl_S (rest := [.long x3]) (st1 := [.long r37, .long x3]) (As := [.int (r25 + (1 : Int32)), .int (x5 + (16 : Int32)), .int x1, .int x2]) E hG (c_m_X12_costOf hcl) Wd_914 mi_X12_costOf ⟨Nat.le_of_ble_eq_true rfl, Nat.le_of_ble_eq_true rfl, Nat.zero_le _, Nat.zero_le _⟩ rfl hl.1 rfl (Nat.le_of_ble_eq_true rfl) dX12_growing_37 rfl (fun H locs hG => ?_)
    refine lv_ladd E.1 E.2.1 dX12_growing_40 ?_
    refine lv_lstore_n (lv' := [(3, .long (x3 + r37)), (0, .ref (ad 0)), (1, .int x1), (2, .int x2), (5, .int x5)]) E.1 E.2.1 dX12_growing_41 rfl hl (by decide) rfl (fun ls hl => ?_)
    refine lv_iinc (v := (x5 + (1 : Int32))) (lv' := [(5, .int (x5 + (1 : Int32))), (3, .long (x3 + r37)), (0, .ref (ad 0)), (1, .int x1), (2, .int x2)]) E.1 E.2.1 dX12_growing_42 hl (k := 4) rfl rfl (by decide) rfl (fun ls hl => ?_)
    refine lv_goto (tgt := 5) E.1 E.2.1 dX12_growing_45 (by decide) ?_
    exact hg5 _ _ _ _ _ hf _ _ _ hG (lv_sub hl [2, 3, 4, 1, 0] rfl)

set_option maxHeartbeats 4000000 in
set_option maxRecDepth 100000 in
theorem c_m_X12_growing {l : Launch} {D : va_G} {ad : Nat → Nat} {cy : ClassId} {σ : SS} {x1 : Int32} {x2 : Int32} {r : Int64} {σ' : SS} (hf : f_m_X12_growing σ x1 x2 = some (r, σ')) : Ctr l D (mw ad cy) (mas ad) cy yX12_growing cX12_growing 6 (some FieldType.long) 3 75 [.ref (ad 0), .int x1, .int x2] σ (some (.long r)) σ' := by
  refine Ctr.of (mw_as ad cy) rfl (Nat.le_of_ble_eq_true rfl) (fun p e s m args below meth c ls E hr hlk hl hG => ?_)
  have hl : lv_has ls 6 [(0, .ref (ad 0)), (1, .int x1), (2, .int x2)] := hl
  unfold f_m_X12_growing at hf
  refine lv_lconst (v := (0 : Int64)) E.1 E.2.1 dX12_growing_0 (by decide) ?_
  refine lv_lstore_n (lv' := [(3, .long (0 : Int64)), (0, .ref (ad 0)), (1, .int x1), (2, .int x2)]) E.1 E.2.1 dX12_growing_1 rfl hl (by decide) rfl (fun ls hl => ?_)
  refine lv_iconst (v := (0 : Int32)) E.1 E.2.1 dX12_growing_2 (by decide) ?_
  refine lv_istore (lv' := [(5, .int (0 : Int32)), (3, .long (0 : Int64)), (0, .ref (ad 0)), (1, .int x1), (2, .int x2)]) E.1 E.2.1 dX12_growing_3 hl (by decide) rfl (fun ls hl => ?_)
  exact L4_at (P := fun σ x1 x2 x3 x5 => At p l e 3 75 s m args below meth c D (mw ad cy) (mas ad) cy (some (.long r)) σ' 6 5 [(0, .ref (ad 0)), (1, .int x1), (2, .int x2), (3, .long x3), (5, .int x5)] [] σ) (fun g hg => k_m_X12_growing_5 E hr hlk g hg) FUEL _ _ _ _ _ hf _ _ _ hG (lv_sub hl [2, 3, 4, 1, 0] rfl)

set_option maxHeartbeats 4000000 in
set_option maxRecDepth 100000 in
theorem c_m_X12_costBy {l : Launch} {D : va_G} {ad : Nat → Nat} {cy : ClassId} {σ : SS} {x1 : Int32} {x2 : Int32} {x3 : Int32} {r : Int64} {σ' : SS} (hf : f_m_X12_costBy σ x1 x2 x3 = some (r, σ')) : Ctr l D (mw ad cy) (mas ad) cy yX12_costBy cX12_costBy 4 (some FieldType.long) 4 102 [.ref (ad 0), .int x1, .int x2, .int x3] σ (some (.long r)) σ' := by
  refine Ctr.of (mw_as ad cy) rfl (Nat.le_of_ble_eq_true rfl) (fun p e s m args below meth c ls E hr hlk hl hG => ?_)
  have hl : lv_has ls 4 [(0, .ref (ad 0)), (1, .int x1), (2, .int x2), (3, .int x3)] := hl
  unfold f_m_X12_costBy at hf
  refine lv_iload_n E.1 E.2.1 dX12_costBy_0 rfl (lv_at hl 1 rfl) ?_
  refine lv_if_ne (tgt := 13) E.1 E.2.1 dX12_costBy_1 (by decide) (fun hc => ?_) (fun hc => ?_)
  · replace hf := (if_neg hc).symm.trans hf
    refine lv_iload_n E.1 E.2.1 dX12_costBy_13 rfl (lv_at hl 1 rfl) ?_
    refine lv_iconst (v := (1 : Int32)) E.1 E.2.1 dX12_costBy_14 (by decide) ?_
    refine lv_icmp_ne (tgt := 27) E.1 E.2.1 dX12_costBy_15 (by decide) (fun hc => ?_) (fun hc => ?_)
    · replace hf := (if_neg hc).symm.trans hf
      refine lv_aload_n E.1 E.2.1 dX12_costBy_27 rfl (lv_at hl 0 rfl) ?_
      refine lv_iload_n E.1 E.2.1 dX12_costBy_28 rfl (lv_at hl 2 rfl) ?_
      refine lv_iload_n E.1 E.2.1 dX12_costBy_29 rfl (lv_at hl 3 rfl) ?_
      obtain ⟨r30, σ30, hcl, hf⟩ := bd_some hf
      refine cl_V (rest := []) (st1 := [.long r30]) (As := [.int x2, .int x3]) E hG (c_m_X12_growing hcl) Wd_926 mi_X12_growing ⟨Nat.le_of_ble_eq_true rfl, Nat.le_of_ble_eq_true rfl, Nat.zero_le _, Nat.zero_le _⟩ 13 0 rfl rfl rfl hl.1 rfl (Nat.le_of_ble_eq_true rfl) dX12_costBy_30 rfl (fun H locs hG => ?_)
      exact r_l E hr hlk hG hf dX12_costBy_33
    · replace hf := (if_pos hc).symm.trans hf
      refine lv_aload_n E.1 E.2.1 dX12_costBy_18 rfl (lv_at hl 0 rfl) ?_
      refine lv_iload_n E.1 E.2.1 dX12_costBy_19 rfl (lv_at hl 2 rfl) ?_
      refine lv_iload_n E.1 E.2.1 dX12_costBy_20 rfl (lv_at hl 3 rfl) ?_
      obtain ⟨r21, σ21, hcl, hf⟩ := bd_some hf
      refine cl_V (rest := []) (st1 := [.long r21]) (As := [.int x2, .int x3]) E hG (c_m_X12_cross hcl) Wd_917 mi_X12_cross ⟨Nat.le_of_ble_eq_true rfl, Nat.le_of_ble_eq_true rfl, Nat.zero_le _, Nat.zero_le _⟩ 13 0 rfl rfl rfl hl.1 rfl (Nat.le_of_ble_eq_true rfl) dX12_costBy_21 rfl (fun H locs hG => ?_)
      refine lv_goto (tgt := 33) E.1 E.2.1 dX12_costBy_24 (by decide) ?_
      exact r_l E hr hlk hG hf dX12_costBy_33
  · replace hf := (if_pos hc).symm.trans hf
    refine lv_aload_n E.1 E.2.1 dX12_costBy_4 rfl (lv_at hl 0 rfl) ?_
    refine lv_iload_n E.1 E.2.1 dX12_costBy_5 rfl (lv_at hl 2 rfl) ?_
    refine lv_iload_n E.1 E.2.1 dX12_costBy_6 rfl (lv_at hl 3 rfl) ?_
    obtain ⟨r7, σ7, hcl, hf⟩ := bd_some hf
    refine cl_V (rest := []) (st1 := [.long r7]) (As := [.int x2, .int x3]) E hG (c_m_X12_content hcl) Wd_910 mi_X12_content ⟨Nat.le_of_ble_eq_true rfl, Nat.le_of_ble_eq_true rfl, Nat.zero_le _, Nat.zero_le _⟩ 13 0 rfl rfl rfl hl.1 rfl (Nat.le_of_ble_eq_true rfl) dX12_costBy_7 rfl (fun H locs hG => ?_)
    refine lv_goto (tgt := 33) E.1 E.2.1 dX12_costBy_10 (by decide) ?_
    exact r_l E hr hlk hG hf dX12_costBy_33
