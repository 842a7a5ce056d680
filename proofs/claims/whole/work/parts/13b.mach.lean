set_option maxHeartbeats 4000000 in
set_option maxRecDepth 100000 in
theorem c_m_X12_cost {l : Launch} {D : va_G} {ad : Nat → Nat} {cy : ClassId} {σ : SS} {x1 : Int32} {x2 : Int32} {x3 : Int32} {r : Int64} {σ' : SS} (hf : f_m_X12_cost σ x1 x2 x3 = some (r, σ')) : Ctr l D (mw ad cy) (mas ad) cy yX12_cost cX12_cost 4 (some FieldType.long) 5 125 [.ref (ad 0), .int x1, .int x2, .int x3] σ (some (.long r)) σ' := by
  refine Ctr.of (mw_as ad cy) rfl (Nat.le_of_ble_eq_true rfl) (fun p e s m args below meth c ls E hr hlk hl hG => ?_)
  have hl : lv_has ls 4 [(0, .ref (ad 0)), (1, .int x1), (2, .int x2), (3, .int x3)] := hl
  unfold f_m_X12_cost at hf
  refine lv_aload_n E.1 E.2.1 dX12_cost_0 rfl (lv_at hl 0 rfl) ?_
  refine lv_iconst (v := (0 : Int32)) E.1 E.2.1 dX12_cost_1 (by decide) ?_
  refine fp_m_X12_59_0 E hG dX12_cost_2 (fun H locs hG => ?_)
  refine lv_iload_n E.1 E.2.1 dX12_cost_5 rfl (lv_at hl 1 rfl) ?_
  refine lv_i2l E.1 E.2.1 dX12_cost_6 rfl ?_
  refine lv_lconst (v := (0 : Int64)) E.1 E.2.1 dX12_cost_7 (by decide) ?_
  refine lv_ldc2 E.1 E.2.1 E.2.2.2.1 (E.2.2.2.2 _ Wd_883) dX12_cost_8 ?_
  obtain ⟨r11, σ11, hcl, hf⟩ := bd_some hf
  refine cl_S (rest := []) (st1 := [.int r11]) (As := [.long (Int32.toInt64 x1), .long (0 : Int64), .long (2 : Int64)]) E hG (c_m_X12_in hcl) Wd_837 mi_X12_in ⟨Nat.le_of_ble_eq_true rfl, Nat.le_of_ble_eq_true rfl, Nat.zero_le _, Nat.zero_le _⟩ rfl hl.1 rfl (Nat.le_of_ble_eq_true rfl) dX12_cost_11 rfl (fun H locs hG => ?_)
  refine lv_if_eq (tgt := 39) E.1 E.2.1 dX12_cost_14 (by decide) (fun hc => ?_) (fun hc => ?_)
  · replace hf := (if_pos hc).symm.trans hf
    refine lv_ldc2 E.1 E.2.1 E.2.2.2.1 (E.2.2.2.2 _ Wd_869) dX12_cost_39 ?_
    exact r_l E hr hlk hG hf dX12_cost_42
  · replace hf := (if_neg hc).symm.trans hf
    refine lv_iload_n E.1 E.2.1 dX12_cost_17 rfl (lv_at hl 2 rfl) ?_
    refine lv_i2l E.1 E.2.1 dX12_cost_18 rfl ?_
    refine lv_lconst (v := (0 : Int64)) E.1 E.2.1 dX12_cost_19 (by decide) ?_
    refine lv_ldc2 E.1 E.2.1 E.2.2.2.1 (E.2.2.2.2 _ Wd_875) dX12_cost_20 ?_
    obtain ⟨r23, σ23, hcl, hf⟩ := bd_some hf
    refine cl_S (rest := []) (st1 := [.int r23]) (As := [.long (Int32.toInt64 x2), .long (0 : Int64), .long (24 : Int64)]) E hG (c_m_X12_in hcl) Wd_837 mi_X12_in ⟨Nat.le_of_ble_eq_true rfl, Nat.le_of_ble_eq_true rfl, Nat.zero_le _, Nat.zero_le _⟩ rfl hl.1 rfl (Nat.le_of_ble_eq_true rfl) dX12_cost_23 rfl (fun H locs hG => ?_)
    refine lv_if_eq (tgt := 39) E.1 E.2.1 dX12_cost_26 (by decide) (fun hc => ?_) (fun hc => ?_)
    · replace hf := (if_pos hc).symm.trans hf
      refine lv_ldc2 E.1 E.2.1 E.2.2.2.1 (E.2.2.2.2 _ Wd_869) dX12_cost_39 ?_
      exact r_l E hr hlk hG hf dX12_cost_42
    · replace hf := (if_neg hc).symm.trans hf
      refine lv_iload_n E.1 E.2.1 dX12_cost_29 rfl (lv_at hl 3 rfl) ?_
      refine lv_i2l E.1 E.2.1 dX12_cost_30 rfl ?_
      refine lv_lconst (v := (0 : Int64)) E.1 E.2.1 dX12_cost_31 (by decide) ?_
      refine lv_lconst (v := (1 : Int64)) E.1 E.2.1 dX12_cost_32 (by decide) ?_
      obtain ⟨r33, σ33, hcl, hf⟩ := bd_some hf
      refine cl_S (rest := []) (st1 := [.int r33]) (As := [.long (Int32.toInt64 x3), .long (0 : Int64), .long (1 : Int64)]) E hG (c_m_X12_in hcl) Wd_837 mi_X12_in ⟨Nat.le_of_ble_eq_true rfl, Nat.le_of_ble_eq_true rfl, Nat.zero_le _, Nat.zero_le _⟩ rfl hl.1 rfl (Nat.le_of_ble_eq_true rfl) dX12_cost_33 rfl (fun H locs hG => ?_)
      refine lv_if_ne (tgt := 43) E.1 E.2.1 dX12_cost_36 (by decide) (fun hc => ?_) (fun hc => ?_)
      · replace hf := (if_neg hc).symm.trans hf
        refine lv_aload_n E.1 E.2.1 dX12_cost_43 rfl (lv_at hl 0 rfl) ?_
        refine lv_iload_n E.1 E.2.1 dX12_cost_44 rfl (lv_at hl 1 rfl) ?_
        refine lv_iload_n E.1 E.2.1 dX12_cost_45 rfl (lv_at hl 2 rfl) ?_
        refine lv_iload_n E.1 E.2.1 dX12_cost_46 rfl (lv_at hl 3 rfl) ?_
        obtain ⟨r47, σ47, hcl, hf⟩ := bd_some hf
        refine cl_V (rest := []) (st1 := [.long r47]) (As := [.int x1, .int x2, .int x3]) E hG (c_m_X12_costBy hcl) Wd_906 mi_X12_costBy ⟨Nat.le_of_ble_eq_true rfl, Nat.le_of_ble_eq_true rfl, Nat.zero_le _, Nat.zero_le _⟩ 13 0 rfl rfl rfl hl.1 rfl (Nat.le_of_ble_eq_true rfl) dX12_cost_47 rfl (fun H locs hG => ?_)
        exact r_l E hr hlk hG hf dX12_cost_50
      · replace hf := (if_pos hc).symm.trans hf
        refine lv_ldc2 E.1 E.2.1 E.2.2.2.1 (E.2.2.2.2 _ Wd_869) dX12_cost_39 ?_
        exact r_l E hr hlk hG hf dX12_cost_42

set_option maxHeartbeats 4000000 in
set_option maxRecDepth 100000 in
theorem k_m_X12_digits_33 {p : Program} {l : Launch} {e : Env} {s : State} {m : MethodId} {args : Array Value} {below : List Frame} {meth : Method} {c : Code} {D : va_G} {ad : Nat → Nat} {cy : ClassId} {r : Int32} {σ' : SS} (E : CallFix p m c cX12_digits 6 s args TT yX12_digits.cls) (hr : meth.sig.returnType = (some FieldType.int)) (hlk : meth.locks = false) (g33 : SS → Int32 → Int32 → Int32 → Option (Int32 × SS)) (hg33 : ∀ (σ : SS) (x1 : Int32) (x2 : Int32) (x3 : Int32), g33 σ x1 x2 x3 = some (r, σ') → At p l e 5 125 s m args below meth c D (mw ad cy) (mas ad) cy (some (.int r)) σ' 6 33 [(0, .ref (ad 0)), (1, .int x1), (2, .int x2), (3, .int x3)] [] σ) : ∀ (σ : SS) (x1 : Int32) (x2 : Int32) (x3 : Int32), f_m_X12_digits_33 g33 σ x1 x2 x3 = some (r, σ') → At p l e 5 125 s m args below meth c D (mw ad cy) (mas ad) cy (some (.int r)) σ' 6 33 [(0, .ref (ad 0)), (1, .int x1), (2, .int x2), (3, .int x3)] [] σ := by
  intro σ x1 x2 x3 hf H locs ls hG hl
  unfold f_m_X12_digits_33 at hf
  refine lv_iload_n E.1 E.2.1 dX12_digits_33 rfl (lv_at hl 3 rfl) ?_
  refine lv_bipush (v := (24 : Int32)) E.1 E.2.1 dX12_digits_34 (by decide) ?_
  refine lv_icmp_gt (tgt := 88) E.1 E.2.1 dX12_digits_36 (by decide) (fun hc => ?_) (fun hc => ?_)
  · replace hf := (if_pos hc).symm.trans hf
    refine lv_bipush (v := (-2 : Int32)) E.1 E.2.1 dX12_digits_88 (by decide) ?_
    exact r_i E hr hlk hG hf dX12_digits_90
  · replace hf := (if_neg hc).symm.trans hf
    refine lv_aload_n E.1 E.2.1 dX12_digits_39 rfl (lv_at hl 0 rfl) ?_
    refine lv_iload_n E.1 E.2.1 dX12_digits_40 rfl (lv_at hl 1 rfl) ?_
    refine lv_iload_n E.1 E.2.1 dX12_digits_41 rfl (lv_at hl 3 rfl) ?_
    refine lv_iconst (v := (0 : Int32)) E.1 E.2.1 dX12_digits_42 (by decide) ?_
    obtain ⟨r43, σ43, hcl, hf⟩ := bd_some hf
    refine cl_V (rest := []) (st1 := [.long r43]) (As := [.int x1, .int x3, .int (0 : Int32)]) E hG (c_m_X12_costBy hcl) Wd_906 mi_X12_costBy ⟨Nat.le_of_ble_eq_true rfl, Nat.le_of_ble_eq_true rfl, Nat.zero_le _, Nat.zero_le _⟩ 13 0 rfl rfl rfl hl.1 rfl (Nat.le_of_ble_eq_true rfl) dX12_digits_43 rfl (fun H locs hG => ?_)
    refine lv_lstore (lv' := [(4, .long r43), (0, .ref (ad 0)), (1, .int x1), (2, .int x2), (3, .int x3)]) E.1 E.2.1 dX12_digits_46 hl (by decide) rfl (fun ls hl => ?_)
    refine lv_lload E.1 E.2.1 dX12_digits_48 (lv_at hl 0 rfl) ?_
    refine lv_lconst (v := (0 : Int64)) E.1 E.2.1 dX12_digits_50 (by decide) ?_
    refine W.lcmp E.1 E.2.1 dX12_digits_51 ?_
    refine lv_if_ge (tgt := 58) E.1 E.2.1 dX12_digits_52 (by decide) (fun hc => ?_) (fun hc => ?_)
    · replace hf := (if_pos hc).symm.trans hf
      refine lv_ldc2 E.1 E.2.1 E.2.2.2.1 (E.2.2.2.2 _ Wd_934) dX12_digits_58 ?_
      refine lv_aload_n E.1 E.2.1 dX12_digits_61 rfl (lv_at hl 1 rfl) ?_
      refine lv_iload_n E.1 E.2.1 dX12_digits_62 rfl (lv_at hl 2 rfl) ?_
      refine lv_iload_n E.1 E.2.1 dX12_digits_63 rfl (lv_at hl 4 rfl) ?_
      refine lv_iconst (v := (1 : Int32)) E.1 E.2.1 dX12_digits_64 (by decide) ?_
      obtain ⟨r65, σ65, hcl, hf⟩ := bd_some hf
      refine cl_V (rest := [.long (1024 : Int64)]) (st1 := [.long r65, .long (1024 : Int64)]) (As := [.int x1, .int x3, .int (1 : Int32)]) E hG (c_m_X12_costBy hcl) Wd_906 mi_X12_costBy ⟨Nat.le_of_ble_eq_true rfl, Nat.le_of_ble_eq_true rfl, Nat.zero_le _, Nat.zero_le _⟩ 13 0 rfl rfl rfl hl.1 rfl (Nat.le_of_ble_eq_true rfl) dX12_digits_65 rfl (fun H locs hG => ?_)
      refine lv_lload E.1 E.2.1 dX12_digits_68 (lv_at hl 0 rfl) ?_
      refine lv_lsub E.1 E.2.1 dX12_digits_70 ?_
      refine lv_lmul E.1 E.2.1 dX12_digits_71 ?_
      refine lv_iload_n E.1 E.2.1 dX12_digits_72 rfl (lv_at hl 3 rfl) ?_
      refine lv_i2l E.1 E.2.1 dX12_digits_73 rfl ?_
      refine lv_iload_n E.1 E.2.1 dX12_digits_74 rfl (lv_at hl 4 rfl) ?_
      refine lv_lshl E.1 E.2.1 dX12_digits_75 rfl ?_
      refine W.lcmp E.1 E.2.1 dX12_digits_76 ?_
      refine lv_if_gt (tgt := 82) E.1 E.2.1 dX12_digits_77 (by decide) (fun hc => ?_) (fun hc => ?_)
      · replace hf := (if_pos hc).symm.trans hf
        refine lv_iinc (v := (x3 + (1 : Int32))) (lv' := [(3, .int (x3 + (1 : Int32))), (4, .long r43), (0, .ref (ad 0)), (1, .int x1), (2, .int x2)]) E.1 E.2.1 dX12_digits_82 hl (k := 4) rfl rfl (by decide) rfl (fun ls hl => ?_)
        refine lv_goto (tgt := 33) E.1 E.2.1 dX12_digits_85 (by decide) ?_
        exact hg33 _ _ _ _ hf _ _ _ hG (lv_sub hl [2, 3, 4, 0] rfl)
      · replace hf := (if_neg hc).symm.trans hf
        refine lv_iload_n E.1 E.2.1 dX12_digits_80 rfl (lv_at hl 4 rfl) ?_
        exact r_i E hr hlk hG hf dX12_digits_81
    · replace hf := (if_neg hc).symm.trans hf
      refine lv_bipush (v := (-2 : Int32)) E.1 E.2.1 dX12_digits_55 (by decide) ?_
      exact r_i E hr hlk hG hf dX12_digits_57

set_option maxHeartbeats 4000000 in
set_option maxRecDepth 100000 in
theorem c_m_X12_digits {l : Launch} {D : va_G} {ad : Nat → Nat} {cy : ClassId} {σ : SS} {x1 : Int32} {x2 : Int32} {r : Int32} {σ' : SS} (hf : f_m_X12_digits σ x1 x2 = some (r, σ')) : Ctr l D (mw ad cy) (mas ad) cy yX12_digits cX12_digits 6 (some FieldType.int) 5 125 [.ref (ad 0), .int x1, .int x2] σ (some (.int r)) σ' := by
  refine Ctr.of (mw_as ad cy) rfl (Nat.le_of_ble_eq_true rfl) (fun p e s m args below meth c ls E hr hlk hl hG => ?_)
  have hl : lv_has ls 6 [(0, .ref (ad 0)), (1, .int x1), (2, .int x2)] := hl
  unfold f_m_X12_digits at hf
  refine lv_aload_n E.1 E.2.1 dX12_digits_0 rfl (lv_at hl 0 rfl) ?_
  refine lv_iconst (v := (0 : Int32)) E.1 E.2.1 dX12_digits_1 (by decide) ?_
  refine fp_m_X12_59_0 E hG dX12_digits_2 (fun H locs hG => ?_)
  refine lv_iload_n E.1 E.2.1 dX12_digits_5 rfl (lv_at hl 1 rfl) ?_
  refine lv_i2l E.1 E.2.1 dX12_digits_6 rfl ?_
  refine lv_lconst (v := (0 : Int64)) E.1 E.2.1 dX12_digits_7 (by decide) ?_
  refine lv_ldc2 E.1 E.2.1 E.2.2.2.1 (E.2.2.2.2 _ Wd_883) dX12_digits_8 ?_
  obtain ⟨r11, σ11, hcl, hf⟩ := bd_some hf
  refine cl_S (rest := []) (st1 := [.int r11]) (As := [.long (Int32.toInt64 x1), .long (0 : Int64), .long (2 : Int64)]) E hG (c_m_X12_in hcl) Wd_837 mi_X12_in ⟨Nat.le_of_ble_eq_true rfl, Nat.le_of_ble_eq_true rfl, Nat.zero_le _, Nat.zero_le _⟩ rfl hl.1 rfl (Nat.le_of_ble_eq_true rfl) dX12_digits_11 rfl (fun H locs hG => ?_)
  refine lv_if_eq (tgt := 29) E.1 E.2.1 dX12_digits_14 (by decide) (fun hc => ?_) (fun hc => ?_)
  · replace hf := (if_pos hc).symm.trans hf
    refine lv_iconst (v := (-1 : Int32)) E.1 E.2.1 dX12_digits_29 (by decide) ?_
    exact r_i E hr hlk hG hf dX12_digits_30
  · replace hf := (if_neg hc).symm.trans hf
    refine lv_iload_n E.1 E.2.1 dX12_digits_17 rfl (lv_at hl 2 rfl) ?_
    refine lv_i2l E.1 E.2.1 dX12_digits_18 rfl ?_
    refine lv_lconst (v := (0 : Int64)) E.1 E.2.1 dX12_digits_19 (by decide) ?_
    refine lv_ldc2 E.1 E.2.1 E.2.2.2.1 (E.2.2.2.2 _ Wd_901) dX12_digits_20 ?_
    obtain ⟨r23, σ23, hcl, hf⟩ := bd_some hf
    refine cl_S (rest := []) (st1 := [.int r23]) (As := [.long (Int32.toInt64 x2), .long (0 : Int64), .long (1000000 : Int64)]) E hG (c_m_X12_in hcl) Wd_837 mi_X12_in ⟨Nat.le_of_ble_eq_true rfl, Nat.le_of_ble_eq_true rfl, Nat.zero_le _, Nat.zero_le _⟩ rfl hl.1 rfl (Nat.le_of_ble_eq_true rfl) dX12_digits_23 rfl (fun H locs hG => ?_)
    refine lv_if_ne (tgt := 31) E.1 E.2.1 dX12_digits_26 (by decide) (fun hc => ?_) (fun hc => ?_)
    · replace hf := (if_neg hc).symm.trans hf
      refine lv_iconst (v := (0 : Int32)) E.1 E.2.1 dX12_digits_31 (by decide) ?_
      refine lv_istore_n (lv' := [(3, .int (0 : Int32)), (0, .ref (ad 0)), (1, .int x1), (2, .int x2)]) E.1 E.2.1 dX12_digits_32 rfl hl (by decide) rfl (fun ls hl => ?_)
      exact L3_at (P := fun σ x1 x2 x3 => At p l e 5 125 s m args below meth c D (mw ad cy) (mas ad) cy (some (.int r)) σ' 6 33 [(0, .ref (ad 0)), (1, .int x1), (2, .int x2), (3, .int x3)] [] σ) (fun g hg => k_m_X12_digits_33 E hr hlk g hg) FUEL _ _ _ _ hf _ _ _ hG (lv_sub hl [1, 2, 3, 0] rfl)
    · replace hf := (if_pos hc).symm.trans hf
      refine lv_iconst (v := (-1 : Int32)) E.1 E.2.1 dX12_digits_29 (by decide) ?_
      exact r_i E hr hlk hG hf dX12_digits_30

set_option maxHeartbeats 4000000 in
set_option maxRecDepth 100000 in
theorem k_m_X12_takeLeast_68 {p : Program} {l : Launch} {e : Env} {s : State} {m : MethodId} {args : Array Value} {below : List Frame} {meth : Method} {c : Code} {D : va_G} {ad : Nat → Nat} {cy : ClassId} {r : Int32} {σ' : SS} (E : CallFix p m c cX12_takeLeast 4 s args TT yX12_takeLeast.cls) (hr : meth.sig.returnType = (some FieldType.int)) (hlk : meth.locks = false) (g68 : SS → Int32 → Int32 → Option (Int32 × SS)) (hg68 : ∀ (σ : SS) (x2 : Int32) (x3 : Int32), g68 σ x2 x3 = some (r, σ') → At p l e 0 0 s m args below meth c D (mw ad cy) (mas ad) cy (some (.int r)) σ' 4 68 [(0, .ref (ad 0)), (2, .int x2), (3, .int x3)] [] σ) : ∀ (σ : SS) (x2 : Int32) (x3 : Int32), f_m_X12_takeLeast_68 g68 σ x2 x3 = some (r, σ') → At p l e 0 0 s m args below meth c D (mw ad cy) (mas ad) cy (some (.int r)) σ' 4 68 [(0, .ref (ad 0)), (2, .int x2), (3, .int x3)] [] σ := by
  intro σ x2 x3 hf H locs ls hG hl
  unfold f_m_X12_takeLeast_68 at hf
  refine lv_iload_n E.1 E.2.1 dX12_takeLeast_68 rfl (lv_at hl 2 rfl) ?_
  refine lv_aload_n E.1 E.2.1 dX12_takeLeast_69 rfl (lv_at hl 0 rfl) ?_
  refine fg_m_X12_146_0 E hG dX12_takeLeast_70 ?_
  refine lv_icmp_ge (tgt := 110) E.1 E.2.1 dX12_takeLeast_73 (by decide) (fun hc => ?_) (fun hc => ?_)
  · replace hf := (if_pos hc).symm.trans hf
    refine lv_iload_n E.1 E.2.1 dX12_takeLeast_110 rfl (lv_at hl 1 rfl) ?_
    exact r_i E hr hlk hG hf dX12_takeLeast_111
  · replace hf := (if_neg hc).symm.trans hf
    refine lv_aload_n E.1 E.2.1 dX12_takeLeast_76 rfl (lv_at hl 0 rfl) ?_
    refine fg_m_X12_25_0 E hG dX12_takeLeast_77 ?_
    refine lv_iload_n E.1 E.2.1 dX12_takeLeast_80 rfl (lv_at hl 2 rfl) ?_
    refine lv_aload_n E.1 E.2.1 dX12_takeLeast_81 rfl (lv_at hl 0 rfl) ?_
    refine fg_m_X12_25_0 E hG dX12_takeLeast_82 ?_
    refine lv_iload_n E.1 E.2.1 dX12_takeLeast_85 rfl (lv_at hl 2 rfl) ?_
    refine lv_iconst (v := (1 : Int32)) E.1 E.2.1 dX12_takeLeast_86 (by decide) ?_
    refine lv_iadd E.1 E.2.1 dX12_takeLeast_87 ?_
    obtain ⟨hin, hf⟩ := gd_some hf
    refine al_m_6 E hG hin dX12_takeLeast_88 ?_
    obtain ⟨hin, hf⟩ := gd_some hf
    refine as_m_6 E hG hin dX12_takeLeast_89 (fun H locs hG => ?_)
    refine lv_aload_n E.1 E.2.1 dX12_takeLeast_90 rfl (lv_at hl 0 rfl) ?_
    refine fg_m_X12_28_0 E hG dX12_takeLeast_91 ?_
    refine lv_iload_n E.1 E.2.1 dX12_takeLeast_94 rfl (lv_at hl 2 rfl) ?_
    refine lv_aload_n E.1 E.2.1 dX12_takeLeast_95 rfl (lv_at hl 0 rfl) ?_
    refine fg_m_X12_28_0 E hG dX12_takeLeast_96 ?_
    refine lv_iload_n E.1 E.2.1 dX12_takeLeast_99 rfl (lv_at hl 2 rfl) ?_
    refine lv_iconst (v := (1 : Int32)) E.1 E.2.1 dX12_takeLeast_100 (by decide) ?_
    refine lv_iadd E.1 E.2.1 dX12_takeLeast_101 ?_
    obtain ⟨hin, hf⟩ := gd_some hf
    refine al_m_7 E hG hin dX12_takeLeast_102 ?_
    obtain ⟨hin, hf⟩ := gd_some hf
    refine as_m_7 E hG hin dX12_takeLeast_103 (fun H locs hG => ?_)
    refine lv_iinc (v := (x3 + (1 : Int32))) (lv' := [(3, .int (x3 + (1 : Int32))), (0, .ref (ad 0)), (2, .int x2)]) E.1 E.2.1 dX12_takeLeast_104 hl (k := 2) rfl rfl (by decide) rfl (fun ls hl => ?_)
    refine lv_goto (tgt := 68) E.1 E.2.1 dX12_takeLeast_107 (by decide) ?_
    exact hg68 _ _ _ hf _ _ _ hG (lv_sub hl [1, 2, 0] rfl)

set_option maxHeartbeats 4000000 in
set_option maxRecDepth 100000 in
theorem k_m_X12_takeLeast_4 {p : Program} {l : Launch} {e : Env} {s : State} {m : MethodId} {args : Array Value} {below : List Frame} {meth : Method} {c : Code} {D : va_G} {ad : Nat → Nat} {cy : ClassId} {r : Int32} {σ' : SS} (E : CallFix p m c cX12_takeLeast 4 s args TT yX12_takeLeast.cls) (hr : meth.sig.returnType = (some FieldType.int)) (hlk : meth.locks = false) (g4 : SS → Int32 → Int32 → Option (Int32 × SS)) (hg4 : ∀ (σ : SS) (x1 : Int32) (x2 : Int32), g4 σ x1 x2 = some (r, σ') → At p l e 0 0 s m args below meth c D (mw ad cy) (mas ad) cy (some (.int r)) σ' 4 4 [(0, .ref (ad 0)), (1, .int x1), (2, .int x2)] [] σ) : ∀ (σ : SS) (x1 : Int32) (x2 : Int32), f_m_X12_takeLeast_4 g4 σ x1 x2 = some (r, σ') → At p l e 0 0 s m args below meth c D (mw ad cy) (mas ad) cy (some (.int r)) σ' 4 4 [(0, .ref (ad 0)), (1, .int x1), (2, .int x2)] [] σ := by
  intro σ x1 x2 hf H locs ls hG hl
  unfold f_m_X12_takeLeast_4 at hf
  refine lv_iload_n E.1 E.2.1 dX12_takeLeast_4 rfl (lv_at hl 2 rfl) ?_
  refine lv_aload_n E.1 E.2.1 dX12_takeLeast_5 rfl (lv_at hl 0 rfl) ?_
  refine fg_m_X12_146_0 E hG dX12_takeLeast_6 ?_
  refine lv_icmp_ge (tgt := 39) E.1 E.2.1 dX12_takeLeast_9 (by decide) (fun hc => ?_) (fun hc => ?_)
  · replace hf := (if_pos hc).symm.trans hf
    refine lv_aload_n E.1 E.2.1 dX12_takeLeast_39 rfl (lv_at hl 0 rfl) ?_
    refine lv_aload_n E.1 E.2.1 dX12_takeLeast_40 rfl (lv_at hl 0 rfl) ?_
    refine fg_m_X12_25_0 E hG dX12_takeLeast_41 ?_
    refine lv_iload_n E.1 E.2.1 dX12_takeLeast_44 rfl (lv_at hl 1 rfl) ?_
    obtain ⟨hin, hf⟩ := gd_some hf
    refine al_m_6 E hG hin dX12_takeLeast_45 ?_
    refine fp_m_X12_149_0 E hG dX12_takeLeast_46 (fun H locs hG => ?_)
    refine lv_aload_n E.1 E.2.1 dX12_takeLeast_49 rfl (lv_at hl 0 rfl) ?_
    refine fg_m_X12_28_0 E hG dX12_takeLeast_50 ?_
    refine lv_iload_n E.1 E.2.1 dX12_takeLeast_53 rfl (lv_at hl 1 rfl) ?_
    obtain ⟨hin, hf⟩ := gd_some hf
    refine al_m_7 E hG hin dX12_takeLeast_54 ?_
    refine lv_istore_n (lv' := [(2, .int ((putI σ 5 (σ.2 5 (Int32.toNatClampNeg x1))).2 6 (Int32.toNatClampNeg x1))), (0, .ref (ad 0)), (1, .int x1)]) E.1 E.2.1 dX12_takeLeast_55 rfl hl (by decide) rfl (fun ls hl => ?_)
    refine lv_aload_n E.1 E.2.1 dX12_takeLeast_56 rfl (lv_at hl 1 rfl) ?_
    refine lv_dup E.1 E.2.1 dX12_takeLeast_57 rfl ?_
    refine fg_m_X12_146_0 E hG dX12_takeLeast_58 ?_
    refine lv_iconst (v := (1 : Int32)) E.1 E.2.1 dX12_takeLeast_61 (by decide) ?_
    refine lv_isub E.1 E.2.1 dX12_takeLeast_62 ?_
    refine fp_m_X12_146_0 E hG dX12_takeLeast_63 (fun H locs hG => ?_)
    refine lv_iload_n E.1 E.2.1 dX12_takeLeast_66 rfl (lv_at hl 2 rfl) ?_
    refine lv_istore_n (lv' := [(3, .int x1), (2, .int ((putI σ 5 (σ.2 5 (Int32.toNatClampNeg x1))).2 6 (Int32.toNatClampNeg x1))), (0, .ref (ad 0)), (1, .int x1)]) E.1 E.2.1 dX12_takeLeast_67 rfl hl (by decide) rfl (fun ls hl => ?_)
    exact L2_at (P := fun σ x2 x3 => At p l e 0 0 s m args below meth c D (mw ad cy) (mas ad) cy (some (.int r)) σ' 4 68 [(0, .ref (ad 0)), (2, .int x2), (3, .int x3)] [] σ) (fun g hg => k_m_X12_takeLeast_68 E hr hlk g hg) FUEL _ _ _ hf _ _ _ hG (lv_sub hl [2, 1, 0] rfl)
  · replace hf := (if_neg hc).symm.trans hf
    refine lv_aload_n E.1 E.2.1 dX12_takeLeast_12 rfl (lv_at hl 0 rfl) ?_
    refine fg_m_X12_25_0 E hG dX12_takeLeast_13 ?_
    refine lv_iload_n E.1 E.2.1 dX12_takeLeast_16 rfl (lv_at hl 2 rfl) ?_
    obtain ⟨hin, hf⟩ := gd_some hf
    refine al_m_6 E hG hin dX12_takeLeast_17 ?_
    refine lv_aload_n E.1 E.2.1 dX12_takeLeast_18 rfl (lv_at hl 0 rfl) ?_
    refine fg_m_X12_25_0 E hG dX12_takeLeast_19 ?_
    refine lv_iload_n E.1 E.2.1 dX12_takeLeast_22 rfl (lv_at hl 1 rfl) ?_
    obtain ⟨hin, hf⟩ := gd_some hf
    refine al_m_6 E hG hin dX12_takeLeast_23 ?_
    refine lv_icmp_ge (tgt := 31) E.1 E.2.1 dX12_takeLeast_24 (by decide) (fun hc => ?_) (fun hc => ?_)
    · replace hf := (if_pos hc).symm.trans hf
      refine lv_iload_n E.1 E.2.1 dX12_takeLeast_31 rfl (lv_at hl 1 rfl) ?_
      refine lv_istore_n (lv' := [(1, .int x1), (0, .ref (ad 0)), (2, .int x2)]) E.1 E.2.1 dX12_takeLeast_32 rfl hl (by decide) rfl (fun ls hl => ?_)
      refine lv_iinc (v := (x2 + (1 : Int32))) (lv' := [(2, .int (x2 + (1 : Int32))), (1, .int x1), (0, .ref (ad 0))]) E.1 E.2.1 dX12_takeLeast_33 hl (k := 2) rfl rfl (by decide) rfl (fun ls hl => ?_)
      refine lv_goto (tgt := 4) E.1 E.2.1 dX12_takeLeast_36 (by decide) ?_
      exact hg4 _ _ _ hf _ _ _ hG (lv_sub hl [2, 1, 0] rfl)
    · replace hf := (if_neg hc).symm.trans hf
      refine lv_iload_n E.1 E.2.1 dX12_takeLeast_27 rfl (lv_at hl 2 rfl) ?_
      refine lv_goto (tgt := 32) E.1 E.2.1 dX12_takeLeast_28 (by decide) ?_
      refine lv_istore_n (lv' := [(1, .int x2), (0, .ref (ad 0)), (2, .int x2)]) E.1 E.2.1 dX12_takeLeast_32 rfl hl (by decide) rfl (fun ls hl => ?_)
      refine lv_iinc (v := (x2 + (1 : Int32))) (lv' := [(2, .int (x2 + (1 : Int32))), (1, .int x2), (0, .ref (ad 0))]) E.1 E.2.1 dX12_takeLeast_33 hl (k := 2) rfl rfl (by decide) rfl (fun ls hl => ?_)
      refine lv_goto (tgt := 4) E.1 E.2.1 dX12_takeLeast_36 (by decide) ?_
      exact hg4 _ _ _ hf _ _ _ hG (lv_sub hl [2, 1, 0] rfl)

set_option maxHeartbeats 4000000 in
set_option maxRecDepth 100000 in
theorem c_m_X12_takeLeast {l : Launch} {D : va_G} {ad : Nat → Nat} {cy : ClassId} {σ : SS} {r : Int32} {σ' : SS} (hf : f_m_X12_takeLeast σ = some (r, σ')) : Ctr l D (mw ad cy) (mas ad) cy yX12_takeLeast cX12_takeLeast 4 (some FieldType.int) 0 0 [.ref (ad 0)] σ (some (.int r)) σ' := by
  refine Ctr.of (mw_as ad cy) rfl (Nat.le_of_ble_eq_true rfl) (fun p e s m args below meth c ls E hr hlk hl hG => ?_)
  have hl : lv_has ls 4 [(0, .ref (ad 0))] := hl
  unfold f_m_X12_takeLeast at hf
  refine lv_iconst (v := (0 : Int32)) E.1 E.2.1 dX12_takeLeast_0 (by decide) ?_
  refine lv_istore_n (lv' := [(1, .int (0 : Int32)), (0, .ref (ad 0))]) E.1 E.2.1 dX12_takeLeast_1 rfl hl (by decide) rfl (fun ls hl => ?_)
  refine lv_iconst (v := (1 : Int32)) E.1 E.2.1 dX12_takeLeast_2 (by decide) ?_
  refine lv_istore_n (lv' := [(2, .int (1 : Int32)), (1, .int (0 : Int32)), (0, .ref (ad 0))]) E.1 E.2.1 dX12_takeLeast_3 rfl hl (by decide) rfl (fun ls hl => ?_)
  exact L2_at (P := fun σ x1 x2 => At p l e 0 0 s m args below meth c D (mw ad cy) (mas ad) cy (some (.int r)) σ' 4 4 [(0, .ref (ad 0)), (1, .int x1), (2, .int x2)] [] σ) (fun g hg => k_m_X12_takeLeast_4 E hr hlk g hg) FUEL _ _ _ hf _ _ _ hG (lv_sub hl [2, 1, 0] rfl)

set_option maxHeartbeats 4000000 in
set_option maxRecDepth 100000 in
theorem k_m_X12_findWords_174 {p : Program} {l : Launch} {e : Env} {s : State} {m : MethodId} {args : Array Value} {below : List Frame} {meth : Method} {c : Code} {D : va_G} {ad : Nat → Nat} {cy : ClassId} {r : Unit} {σ' : SS} (E : CallFix p m c cX12_findWords 4 s args TT yX12_findWords.cls) (hr : meth.sig.returnType = none) (hlk : meth.locks = false) (g110 : SS → Option (Unit × SS)) (hg110 : ∀ (σ : SS), g110 σ = some (r, σ') → At p l e 1 24 s m args below meth c D (mw ad cy) (mas ad) cy (none) σ' 4 110 [(0, .ref (ad 0))] [] σ) (g174 : SS → Int32 → Int32 → Option (Unit × SS)) (hg174 : ∀ (σ : SS) (x1 : Int32) (x3 : Int32), g174 σ x1 x3 = some (r, σ') → At p l e 1 24 s m args below meth c D (mw ad cy) (mas ad) cy (none) σ' 4 174 [(0, .ref (ad 0)), (1, .int x1), (3, .int x3)] [] σ) : ∀ (σ : SS) (x1 : Int32) (x3 : Int32), f_m_X12_findWords_174 g110 g174 σ x1 x3 = some (r, σ') → At p l e 1 24 s m args below meth c D (mw ad cy) (mas ad) cy (none) σ' 4 174 [(0, .ref (ad 0)), (1, .int x1), (3, .int x3)] [] σ := by
  intro σ x1 x3 hf H locs ls hG hl
  unfold f_m_X12_findWords_174 at hf
  refine lv_iload_n E.1 E.2.1 dX12_findWords_174 rfl (lv_at hl 2 rfl) ?_
  refine lv_bipush (v := (16 : Int32)) E.1 E.2.1 dX12_findWords_175 (by decide) ?_
  refine lv_icmp_ge (tgt := 200) E.1 E.2.1 dX12_findWords_177 (by decide) (fun hc => ?_) (fun hc => ?_)
  · replace hf := (if_pos hc).symm.trans hf
    refine lv_goto (tgt := 110) E.1 E.2.1 dX12_findWords_200 (by decide) ?_
    exact hg110 _ hf _ _ _ hG (lv_sub hl [0] rfl)
  · replace hf := (if_neg hc).symm.trans hf
    refine lv_aload_n E.1 E.2.1 dX12_findWords_180 rfl (lv_at hl 0 rfl) ?_
    refine fg_m_X12_31_0 E hG dX12_findWords_181 ?_
    refine lv_iload_n E.1 E.2.1 dX12_findWords_184 rfl (lv_at hl 2 rfl) ?_
    refine lv_dup2_11 E.1 E.2.1 dX12_findWords_185 rfl rfl ?_
    obtain ⟨hin, hf⟩ := gd_some hf
    refine al_m_8 E hG hin dX12_findWords_186 ?_
    refine lv_iload_n E.1 E.2.1 dX12_findWords_187 rfl (lv_at hl 1 rfl) ?_
    refine lv_iload_n E.1 E.2.1 dX12_findWords_188 rfl (lv_at hl 2 rfl) ?_
    refine lv_ishr E.1 E.2.1 dX12_findWords_189 ?_
    refine lv_iconst (v := (1 : Int32)) E.1 E.2.1 dX12_findWords_190 (by decide) ?_
    refine lv_iand E.1 E.2.1 dX12_findWords_191 ?_
    refine lv_iadd E.1 E.2.1 dX12_findWords_192 ?_
    obtain ⟨hin, hf⟩ := gd_some hf
    refine as_m_8 E hG hin dX12_findWords_193 (fun H locs hG => ?_)
    refine lv_iinc (v := (x3 + (1 : Int32))) (lv' := [(3, .int (x3 + (1 : Int32))), (0, .ref (ad 0)), (1, .int x1)]) E.1 E.2.1 dX12_findWords_194 hl (k := 2) rfl rfl (by decide) rfl (fun ls hl => ?_)
    refine lv_goto (tgt := 174) E.1 E.2.1 dX12_findWords_197 (by decide) ?_
    exact hg174 _ _ _ hf _ _ _ hG (lv_sub hl [1, 2, 0] rfl)

set_option maxHeartbeats 4000000 in
set_option maxRecDepth 100000 in
theorem k_m_X12_findWords_110 {p : Program} {l : Launch} {e : Env} {s : State} {m : MethodId} {args : Array Value} {below : List Frame} {meth : Method} {c : Code} {D : va_G} {ad : Nat → Nat} {cy : ClassId} {r : Unit} {σ' : SS} (E : CallFix p m c cX12_findWords 4 s args TT yX12_findWords.cls) (hr : meth.sig.returnType = none) (hlk : meth.locks = false) (g110 : SS → Option (Unit × SS)) (hg110 : ∀ (σ : SS), g110 σ = some (r, σ') → At p l e 1 24 s m args below meth c D (mw ad cy) (mas ad) cy (none) σ' 4 110 [(0, .ref (ad 0))] [] σ) : ∀ (σ : SS), f_m_X12_findWords_110 g110 σ = some (r, σ') → At p l e 1 24 s m args below meth c D (mw ad cy) (mas ad) cy (none) σ' 4 110 [(0, .ref (ad 0))] [] σ := by
  intro σ hf H locs ls hG hl
  unfold f_m_X12_findWords_110 at hf
  refine lv_aload_n E.1 E.2.1 dX12_findWords_110 rfl (lv_at hl 0 rfl) ?_
  refine fg_m_X12_146_0 E hG dX12_findWords_111 ?_
  refine lv_iconst (v := (1 : Int32)) E.1 E.2.1 dX12_findWords_114 (by decide) ?_
  refine lv_icmp_le (tgt := 203) E.1 E.2.1 dX12_findWords_115 (by decide) (fun hc => ?_) (fun hc => ?_)
  · replace hf := (if_pos hc).symm.trans hf
    exact r_v E hr hlk hG hf dX12_findWords_203
  · replace hf := (if_neg hc).symm.trans hf
    refine lv_aload_n E.1 E.2.1 dX12_findWords_118 rfl (lv_at hl 0 rfl) ?_
    obtain ⟨r119, σ119, hcl, hf⟩ := bd_some hf
    refine cl_V (rest := []) (st1 := [.int r119]) (As := []) E hG (c_m_X12_takeLeast hcl) Wd_946 mi_X12_takeLeast ⟨Nat.le_of_ble_eq_true rfl, Nat.le_of_ble_eq_true rfl, Nat.zero_le _, Nat.zero_le _⟩ 13 0 rfl rfl rfl hl.1 rfl (Nat.le_of_ble_eq_true rfl) dX12_findWords_119 rfl (fun H locs hG => ?_)
    refine lv_istore_n (lv' := [(1, .int r119), (0, .ref (ad 0))]) E.1 E.2.1 dX12_findWords_122 rfl hl (by decide) rfl (fun ls hl => ?_)
    refine lv_aload_n E.1 E.2.1 dX12_findWords_123 rfl (lv_at hl 1 rfl) ?_
    refine fg_m_X12_149_0 E hG dX12_findWords_124 ?_
    refine lv_istore_n (lv' := [(2, .int (σ119.1 5)), (1, .int r119), (0, .ref (ad 0))]) E.1 E.2.1 dX12_findWords_127 rfl hl (by decide) rfl (fun ls hl => ?_)
    refine lv_iload_n E.1 E.2.1 dX12_findWords_128 rfl (lv_at hl 1 rfl) ?_
    refine lv_aload_n E.1 E.2.1 dX12_findWords_129 rfl (lv_at hl 2 rfl) ?_
    obtain ⟨r130, σ130, hcl, hf⟩ := bd_some hf
    refine cl_V (rest := [.int r119]) (st1 := [.int r130, .int r119]) (As := []) E hG (c_m_X12_takeLeast hcl) Wd_946 mi_X12_takeLeast ⟨Nat.le_of_ble_eq_true rfl, Nat.le_of_ble_eq_true rfl, Nat.zero_le _, Nat.zero_le _⟩ 13 0 rfl rfl rfl hl.1 rfl (Nat.le_of_ble_eq_true rfl) dX12_findWords_130 rfl (fun H locs hG => ?_)
    refine lv_ior E.1 E.2.1 dX12_findWords_133 ?_
    refine lv_istore_n (lv' := [(1, .int (r119 ||| r130)), (2, .int (σ119.1 5)), (0, .ref (ad 0))]) E.1 E.2.1 dX12_findWords_134 rfl hl (by decide) rfl (fun ls hl => ?_)
    refine lv_iload_n E.1 E.2.1 dX12_findWords_135 rfl (lv_at hl 1 rfl) ?_
    refine lv_aload_n E.1 E.2.1 dX12_findWords_136 rfl (lv_at hl 2 rfl) ?_
    refine fg_m_X12_149_0 E hG dX12_findWords_137 ?_
    refine lv_iadd E.1 E.2.1 dX12_findWords_140 ?_
    refine lv_istore_n (lv' := [(2, .int ((σ119.1 5) + (σ130.1 5))), (1, .int (r119 ||| r130)), (0, .ref (ad 0))]) E.1 E.2.1 dX12_findWords_141 rfl hl (by decide) rfl (fun ls hl => ?_)
    refine lv_aload_n E.1 E.2.1 dX12_findWords_142 rfl (lv_at hl 2 rfl) ?_
    refine fg_m_X12_25_0 E hG dX12_findWords_143 ?_
    refine lv_aload_n E.1 E.2.1 dX12_findWords_146 rfl (lv_at hl 2 rfl) ?_
    refine fg_m_X12_146_0 E hG dX12_findWords_147 ?_
    refine lv_iload_n E.1 E.2.1 dX12_findWords_150 rfl (lv_at hl 0 rfl) ?_
    obtain ⟨hin, hf⟩ := gd_some hf
    refine as_m_6 E hG hin dX12_findWords_151 (fun H locs hG => ?_)
    refine lv_aload_n E.1 E.2.1 dX12_findWords_152 rfl (lv_at hl 2 rfl) ?_
    refine fg_m_X12_28_0 E hG dX12_findWords_153 ?_
    refine lv_aload_n E.1 E.2.1 dX12_findWords_156 rfl (lv_at hl 2 rfl) ?_
    refine fg_m_X12_146_0 E hG dX12_findWords_157 ?_
    refine lv_iload_n E.1 E.2.1 dX12_findWords_160 rfl (lv_at hl 1 rfl) ?_
    obtain ⟨hin, hf⟩ := gd_some hf
    refine as_m_7 E hG hin dX12_findWords_161 (fun H locs hG => ?_)
    refine lv_aload_n E.1 E.2.1 dX12_findWords_162 rfl (lv_at hl 2 rfl) ?_
    refine lv_dup E.1 E.2.1 dX12_findWords_163 rfl ?_
    refine fg_m_X12_146_0 E hG dX12_findWords_164 ?_
    refine lv_iconst (v := (1 : Int32)) E.1 E.2.1 dX12_findWords_167 (by decide) ?_
    refine lv_iadd E.1 E.2.1 dX12_findWords_168 ?_
    refine fp_m_X12_146_0 E hG dX12_findWords_169 (fun H locs hG => ?_)
    refine lv_iconst (v := (0 : Int32)) E.1 E.2.1 dX12_findWords_172 (by decide) ?_
    refine lv_istore_n (lv' := [(3, .int (0 : Int32)), (2, .int ((σ119.1 5) + (σ130.1 5))), (1, .int (r119 ||| r130)), (0, .ref (ad 0))]) E.1 E.2.1 dX12_findWords_173 rfl hl (by decide) rfl (fun ls hl => ?_)
    exact L2_at (P := fun σ x1 x3 => At p l e 1 24 s m args below meth c D (mw ad cy) (mas ad) cy (none) σ' 4 174 [(0, .ref (ad 0)), (1, .int x1), (3, .int x3)] [] σ) (fun g hg => k_m_X12_findWords_174 E hr hlk g110 hg110 g hg) FUEL _ _ _ hf _ _ _ hG (lv_sub hl [3, 2, 0] rfl)

set_option maxHeartbeats 4000000 in
set_option maxRecDepth 100000 in
theorem k_m_X12_findWords_82 {p : Program} {l : Launch} {e : Env} {s : State} {m : MethodId} {args : Array Value} {below : List Frame} {meth : Method} {c : Code} {D : va_G} {ad : Nat → Nat} {cy : ClassId} {r : Unit} {σ' : SS} (E : CallFix p m c cX12_findWords 4 s args TT yX12_findWords.cls) (hr : meth.sig.returnType = none) (hlk : meth.locks = false) (g82 : SS → Int32 → Option (Unit × SS)) (hg82 : ∀ (σ : SS) (x1 : Int32), g82 σ x1 = some (r, σ') → At p l e 1 24 s m args below meth c D (mw ad cy) (mas ad) cy (none) σ' 4 82 [(0, .ref (ad 0)), (1, .int x1)] [] σ) : ∀ (σ : SS) (x1 : Int32), f_m_X12_findWords_82 g82 σ x1 = some (r, σ') → At p l e 1 24 s m args below meth c D (mw ad cy) (mas ad) cy (none) σ' 4 82 [(0, .ref (ad 0)), (1, .int x1)] [] σ := by
  intro σ x1 hf H locs ls hG hl
  unfold f_m_X12_findWords_82 at hf
  refine lv_iload_n E.1 E.2.1 dX12_findWords_82 rfl (lv_at hl 1 rfl) ?_
  refine lv_bipush (v := (16 : Int32)) E.1 E.2.1 dX12_findWords_83 (by decide) ?_
  refine lv_icmp_ge (tgt := 110) E.1 E.2.1 dX12_findWords_85 (by decide) (fun hc => ?_) (fun hc => ?_)
  · replace hf := (if_pos hc).symm.trans hf
    exact L0_at (P := fun σ => At p l e 1 24 s m args below meth c D (mw ad cy) (mas ad) cy (none) σ' 4 110 [(0, .ref (ad 0))] [] σ) (fun g hg => k_m_X12_findWords_110 E hr hlk g hg) FUEL _ hf _ _ _ hG (lv_sub hl [0] rfl)
  · replace hf := (if_neg hc).symm.trans hf
    refine lv_aload_n E.1 E.2.1 dX12_findWords_88 rfl (lv_at hl 0 rfl) ?_
    refine fg_m_X12_31_0 E hG dX12_findWords_89 ?_
    refine lv_iload_n E.1 E.2.1 dX12_findWords_92 rfl (lv_at hl 1 rfl) ?_
    refine lv_aload_n E.1 E.2.1 dX12_findWords_93 rfl (lv_at hl 0 rfl) ?_
    refine fg_m_X12_28_0 E hG dX12_findWords_94 ?_
    refine lv_iconst (v := (0 : Int32)) E.1 E.2.1 dX12_findWords_97 (by decide) ?_
    obtain ⟨hin, hf⟩ := gd_some hf
    refine al_m_7 E hG hin dX12_findWords_98 ?_
    refine lv_iload_n E.1 E.2.1 dX12_findWords_99 rfl (lv_at hl 1 rfl) ?_
    refine lv_ishr E.1 E.2.1 dX12_findWords_100 ?_
    refine lv_iconst (v := (1 : Int32)) E.1 E.2.1 dX12_findWords_101 (by decide) ?_
    refine lv_iand E.1 E.2.1 dX12_findWords_102 ?_
    obtain ⟨hin, hf⟩ := gd_some hf
    refine as_m_8 E hG hin dX12_findWords_103 (fun H locs hG => ?_)
    refine lv_iinc (v := (x1 + (1 : Int32))) (lv' := [(1, .int (x1 + (1 : Int32))), (0, .ref (ad 0))]) E.1 E.2.1 dX12_findWords_104 hl (k := 1) rfl rfl (by decide) rfl (fun ls hl => ?_)
    refine lv_goto (tgt := 82) E.1 E.2.1 dX12_findWords_107 (by decide) ?_
    exact hg82 _ _ hf _ _ _ hG (lv_sub hl [1, 0] rfl)

set_option maxHeartbeats 4000000 in
set_option maxRecDepth 100000 in
theorem k_m_X12_findWords_7 {p : Program} {l : Launch} {e : Env} {s : State} {m : MethodId} {args : Array Value} {below : List Frame} {meth : Method} {c : Code} {D : va_G} {ad : Nat → Nat} {cy : ClassId} {r : Unit} {σ' : SS} (E : CallFix p m c cX12_findWords 4 s args TT yX12_findWords.cls) (hr : meth.sig.returnType = none) (hlk : meth.locks = false) (g7 : SS → Int32 → Option (Unit × SS)) (hg7 : ∀ (σ : SS) (x1 : Int32), g7 σ x1 = some (r, σ') → At p l e 1 24 s m args below meth c D (mw ad cy) (mas ad) cy (none) σ' 4 7 [(0, .ref (ad 0)), (1, .int x1)] [] σ) : ∀ (σ : SS) (x1 : Int32), f_m_X12_findWords_7 g7 σ x1 = some (r, σ') → At p l e 1 24 s m args below meth c D (mw ad cy) (mas ad) cy (none) σ' 4 7 [(0, .ref (ad 0)), (1, .int x1)] [] σ := by
  intro σ x1 hf H locs ls hG hl
  unfold f_m_X12_findWords_7 at hf
  refine lv_iload_n E.1 E.2.1 dX12_findWords_7 rfl (lv_at hl 1 rfl) ?_
  refine lv_bipush (v := (16 : Int32)) E.1 E.2.1 dX12_findWords_8 (by decide) ?_
  refine lv_icmp_ge (tgt := 72) E.1 E.2.1 dX12_findWords_10 (by decide) (fun hc => ?_) (fun hc => ?_)
  · replace hf := (if_pos hc).symm.trans hf
    refine lv_aload_n E.1 E.2.1 dX12_findWords_72 rfl (lv_at hl 0 rfl) ?_
    refine fg_m_X12_146_0 E hG dX12_findWords_73 ?_
    refine lv_iconst (v := (1 : Int32)) E.1 E.2.1 dX12_findWords_76 (by decide) ?_
    refine lv_icmp_ne (tgt := 110) E.1 E.2.1 dX12_findWords_77 (by decide) (fun hc => ?_) (fun hc => ?_)
    · replace hf := (if_neg hc).symm.trans hf
      exact L0_at (P := fun σ => At p l e 1 24 s m args below meth c D (mw ad cy) (mas ad) cy (none) σ' 4 110 [(0, .ref (ad 0))] [] σ) (fun g hg => k_m_X12_findWords_110 E hr hlk g hg) FUEL _ hf _ _ _ hG (lv_sub hl [0] rfl)
    · replace hf := (if_pos hc).symm.trans hf
      refine lv_iconst (v := (0 : Int32)) E.1 E.2.1 dX12_findWords_80 (by decide) ?_
      refine lv_istore_n (lv' := [(1, .int (0 : Int32)), (0, .ref (ad 0))]) E.1 E.2.1 dX12_findWords_81 rfl hl (by decide) rfl (fun ls hl => ?_)
      exact L1_at (P := fun σ x1 => At p l e 1 24 s m args below meth c D (mw ad cy) (mas ad) cy (none) σ' 4 82 [(0, .ref (ad 0)), (1, .int x1)] [] σ) (fun g hg => k_m_X12_findWords_82 E hr hlk g hg) FUEL _ _ hf _ _ _ hG (lv_sub hl [1, 0] rfl)
  · replace hf := (if_neg hc).symm.trans hf
    refine lv_aload_n E.1 E.2.1 dX12_findWords_13 rfl (lv_at hl 0 rfl) ?_
    refine fg_m_X12_31_0 E hG dX12_findWords_14 ?_
    refine lv_iload_n E.1 E.2.1 dX12_findWords_17 rfl (lv_at hl 1 rfl) ?_
    refine lv_iconst (v := (0 : Int32)) E.1 E.2.1 dX12_findWords_18 (by decide) ?_
    obtain ⟨hin, hf⟩ := gd_some hf
    refine as_m_8 E hG hin dX12_findWords_19 (fun H locs hG => ?_)
    refine lv_aload_n E.1 E.2.1 dX12_findWords_20 rfl (lv_at hl 0 rfl) ?_
    refine lv_iload_n E.1 E.2.1 dX12_findWords_21 rfl (lv_at hl 1 rfl) ?_
    refine lv_aload_n E.1 E.2.1 dX12_findWords_22 rfl (lv_at hl 0 rfl) ?_
    refine fg_m_X12_72_0 E hG dX12_findWords_23 ?_
    obtain ⟨r26, σ26, hcl, hf⟩ := bd_some hf
    refine cl_V (rest := []) (st1 := [.int r26]) (As := [.int x1, .int ((putA σ 7 (Int32.toNatClampNeg x1) (0 : Int32)).1 1)]) E hG (c_m_X12_often hcl) Wd_921 mi_X12_often ⟨Nat.le_of_ble_eq_true rfl, Nat.le_of_ble_eq_true rfl, Nat.zero_le _, Nat.zero_le _⟩ 13 0 rfl rfl rfl hl.1 rfl (Nat.le_of_ble_eq_true rfl) dX12_findWords_26 rfl (fun H locs hG => ?_)
    refine lv_istore_n (lv' := [(2, .int r26), (0, .ref (ad 0)), (1, .int x1)]) E.1 E.2.1 dX12_findWords_29 rfl hl (by decide) rfl (fun ls hl => ?_)
    refine lv_iload_n E.1 E.2.1 dX12_findWords_30 rfl (lv_at hl 0 rfl) ?_
    refine lv_if_le (tgt := 66) E.1 E.2.1 dX12_findWords_31 (by decide) (fun hc => ?_) (fun hc => ?_)
    · replace hf := (if_pos hc).symm.trans hf
      refine lv_iinc (v := (x1 + (1 : Int32))) (lv' := [(1, .int (x1 + (1 : Int32))), (2, .int r26), (0, .ref (ad 0))]) E.1 E.2.1 dX12_findWords_66 hl (k := 2) rfl rfl (by decide) rfl (fun ls hl => ?_)
      refine lv_goto (tgt := 7) E.1 E.2.1 dX12_findWords_69 (by decide) ?_
      exact hg7 _ _ hf _ _ _ hG (lv_sub hl [2, 0] rfl)
    · replace hf := (if_neg hc).symm.trans hf
      refine lv_aload_n E.1 E.2.1 dX12_findWords_34 rfl (lv_at hl 1 rfl) ?_
      refine fg_m_X12_25_0 E hG dX12_findWords_35 ?_
      refine lv_aload_n E.1 E.2.1 dX12_findWords_38 rfl (lv_at hl 1 rfl) ?_
      refine fg_m_X12_146_0 E hG dX12_findWords_39 ?_
      refine lv_iload_n E.1 E.2.1 dX12_findWords_42 rfl (lv_at hl 0 rfl) ?_
      obtain ⟨hin, hf⟩ := gd_some hf
      refine as_m_6 E hG hin dX12_findWords_43 (fun H locs hG => ?_)
      refine lv_aload_n E.1 E.2.1 dX12_findWords_44 rfl (lv_at hl 1 rfl) ?_
      refine fg_m_X12_28_0 E hG dX12_findWords_45 ?_
      refine lv_aload_n E.1 E.2.1 dX12_findWords_48 rfl (lv_at hl 1 rfl) ?_
      refine fg_m_X12_146_0 E hG dX12_findWords_49 ?_
      refine lv_iconst (v := (1 : Int32)) E.1 E.2.1 dX12_findWords_52 (by decide) ?_
      refine lv_iload_n E.1 E.2.1 dX12_findWords_53 rfl (lv_at hl 2 rfl) ?_
      refine lv_ishl E.1 E.2.1 dX12_findWords_54 ?_
      obtain ⟨hin, hf⟩ := gd_some hf
      refine as_m_7 E hG hin dX12_findWords_55 (fun H locs hG => ?_)
      refine lv_aload_n E.1 E.2.1 dX12_findWords_56 rfl (lv_at hl 1 rfl) ?_
      refine lv_dup E.1 E.2.1 dX12_findWords_57 rfl ?_
      refine fg_m_X12_146_0 E hG dX12_findWords_58 ?_
      refine lv_iconst (v := (1 : Int32)) E.1 E.2.1 dX12_findWords_61 (by decide) ?_
      refine lv_iadd E.1 E.2.1 dX12_findWords_62 ?_
      refine fp_m_X12_146_0 E hG dX12_findWords_63 (fun H locs hG => ?_)
      refine lv_iinc (v := (x1 + (1 : Int32))) (lv' := [(1, .int (x1 + (1 : Int32))), (2, .int r26), (0, .ref (ad 0))]) E.1 E.2.1 dX12_findWords_66 hl (k := 2) rfl rfl (by decide) rfl (fun ls hl => ?_)
      refine lv_goto (tgt := 7) E.1 E.2.1 dX12_findWords_69 (by decide) ?_
      exact hg7 _ _ hf _ _ _ hG (lv_sub hl [2, 0] rfl)

set_option maxHeartbeats 4000000 in
set_option maxRecDepth 100000 in
theorem c_m_X12_findWords {l : Launch} {D : va_G} {ad : Nat → Nat} {cy : ClassId} {σ : SS} {r : Unit} {σ' : SS} (hf : f_m_X12_findWords σ = some (r, σ')) : Ctr l D (mw ad cy) (mas ad) cy yX12_findWords cX12_findWords 4 none 1 24 [.ref (ad 0)] σ (none) σ' := by
  refine Ctr.of (mw_as ad cy) rfl (Nat.le_of_ble_eq_true rfl) (fun p e s m args below meth c ls E hr hlk hl hG => ?_)
  have hl : lv_has ls 4 [(0, .ref (ad 0))] := hl
  unfold f_m_X12_findWords at hf
  refine lv_aload_n E.1 E.2.1 dX12_findWords_0 rfl (lv_at hl 0 rfl) ?_
  refine lv_iconst (v := (0 : Int32)) E.1 E.2.1 dX12_findWords_1 (by decide) ?_
  refine fp_m_X12_146_0 E hG dX12_findWords_2 (fun H locs hG => ?_)
  refine lv_iconst (v := (0 : Int32)) E.1 E.2.1 dX12_findWords_5 (by decide) ?_
  refine lv_istore_n (lv' := [(1, .int (0 : Int32)), (0, .ref (ad 0))]) E.1 E.2.1 dX12_findWords_6 rfl hl (by decide) rfl (fun ls hl => ?_)
  exact L1_at (P := fun σ x1 => At p l e 1 24 s m args below meth c D (mw ad cy) (mas ad) cy (none) σ' 4 7 [(0, .ref (ad 0)), (1, .int x1)] [] σ) (fun g hg => k_m_X12_findWords_7 E hr hlk g hg) FUEL _ _ hf _ _ _ hG (lv_sub hl [1, 0] rfl)

set_option maxHeartbeats 4000000 in
set_option maxRecDepth 100000 in
theorem k_m_X12_stepWidth_14 {p : Program} {l : Launch} {e : Env} {s : State} {m : MethodId} {args : Array Value} {below : List Frame} {meth : Method} {c : Code} {D : va_G} {ad : Nat → Nat} {cy : ClassId} {r : Int32} {σ' : SS} (E : CallFix p m c cX12_stepWidth 5 s args TT yX12_stepWidth.cls) (hr : meth.sig.returnType = (some FieldType.int)) (hlk : meth.locks = false) (g14 : SS → Int64 → Int32 → Option (Int32 × SS)) (hg14 : ∀ (σ : SS) (x2 : Int64) (x4 : Int32), g14 σ x2 x4 = some (r, σ') → At p l e 1 24 s m args below meth c D (mw ad cy) (mas ad) cy (some (.int r)) σ' 5 14 [(0, .ref (ad 0)), (2, .long x2), (4, .int x4)] [] σ) : ∀ (σ : SS) (x2 : Int64) (x4 : Int32), f_m_X12_stepWidth_14 g14 σ x2 x4 = some (r, σ') → At p l e 1 24 s m args below meth c D (mw ad cy) (mas ad) cy (some (.int r)) σ' 5 14 [(0, .ref (ad 0)), (2, .long x2), (4, .int x4)] [] σ := by
  intro σ x2 x4 hf H locs ls hG hl
  unfold f_m_X12_stepWidth_14 at hf
  refine lv_lload_n E.1 E.2.1 dX12_stepWidth_14 rfl (lv_at hl 1 rfl) ?_
  refine lv_lconst (v := (0 : Int64)) E.1 E.2.1 dX12_stepWidth_15 (by decide) ?_
  refine W.lcmp E.1 E.2.1 dX12_stepWidth_16 ?_
  refine lv_if_le (tgt := 39) E.1 E.2.1 dX12_stepWidth_17 (by decide) (fun hc => ?_) (fun hc => ?_)
  · replace hf := (if_pos hc).symm.trans hf
    refine lv_iload E.1 E.2.1 dX12_stepWidth_39 (lv_at hl 2 rfl) ?_
    exact r_i E hr hlk hG hf dX12_stepWidth_41
  · replace hf := (if_neg hc).symm.trans hf
    refine lv_lload_n E.1 E.2.1 dX12_stepWidth_20 rfl (lv_at hl 1 rfl) ?_
    refine lv_iload E.1 E.2.1 dX12_stepWidth_21 (lv_at hl 2 rfl) ?_
    refine lv_lshl E.1 E.2.1 dX12_stepWidth_23 rfl ?_
    refine lv_aload_n E.1 E.2.1 dX12_stepWidth_24 rfl (lv_at hl 0 rfl) ?_
    refine fg_m_X12_72_0 E hG dX12_stepWidth_25 ?_
    refine lv_i2l E.1 E.2.1 dX12_stepWidth_28 rfl ?_
    refine W.lcmp E.1 E.2.1 dX12_stepWidth_29 ?_
    refine lv_if_ge (tgt := 39) E.1 E.2.1 dX12_stepWidth_30 (by decide) (fun hc => ?_) (fun hc => ?_)
    · replace hf := (if_pos hc).symm.trans hf
      refine lv_iload E.1 E.2.1 dX12_stepWidth_39 (lv_at hl 2 rfl) ?_
      exact r_i E hr hlk hG hf dX12_stepWidth_41
    · replace hf := (if_neg hc).symm.trans hf
      refine lv_iinc (v := (x4 + (1 : Int32))) (lv' := [(4, .int (x4 + (1 : Int32))), (0, .ref (ad 0)), (2, .long x2)]) E.1 E.2.1 dX12_stepWidth_33 hl (k := 2) rfl rfl (by decide) rfl (fun ls hl => ?_)
      refine lv_goto (tgt := 14) E.1 E.2.1 dX12_stepWidth_36 (by decide) ?_
      exact hg14 _ _ _ hf _ _ _ hG (lv_sub hl [1, 2, 0] rfl)

set_option maxHeartbeats 4000000 in
set_option maxRecDepth 100000 in
theorem c_m_X12_stepWidth {l : Launch} {D : va_G} {ad : Nat → Nat} {cy : ClassId} {σ : SS} {x1 : Int32} {r : Int32} {σ' : SS} (hf : f_m_X12_stepWidth σ x1 = some (r, σ')) : Ctr l D (mw ad cy) (mas ad) cy yX12_stepWidth cX12_stepWidth 5 (some FieldType.int) 1 24 [.ref (ad 0), .int x1] σ (some (.int r)) σ' := by
  refine Ctr.of (mw_as ad cy) rfl (Nat.le_of_ble_eq_true rfl) (fun p e s m args below meth c ls E hr hlk hl hG => ?_)
  have hl : lv_has ls 5 [(0, .ref (ad 0)), (1, .int x1)] := hl
  unfold f_m_X12_stepWidth at hf
  refine lv_aload_n E.1 E.2.1 dX12_stepWidth_0 rfl (lv_at hl 0 rfl) ?_
  refine lv_iload_n E.1 E.2.1 dX12_stepWidth_1 rfl (lv_at hl 1 rfl) ?_
  refine lv_aload_n E.1 E.2.1 dX12_stepWidth_2 rfl (lv_at hl 0 rfl) ?_
  refine fg_m_X12_72_0 E hG dX12_stepWidth_3 ?_
  obtain ⟨r6, σ6, hcl, hf⟩ := bd_some hf
  refine cl_V (rest := []) (st1 := [.int r6]) (As := [.int x1, .int (σ.1 1)]) E hG (c_m_X12_often hcl) Wd_921 mi_X12_often ⟨Nat.le_of_ble_eq_true rfl, Nat.le_of_ble_eq_true rfl, Nat.zero_le _, Nat.zero_le _⟩ 13 0 rfl rfl rfl hl.1 rfl (Nat.le_of_ble_eq_true rfl) dX12_stepWidth_6 rfl (fun H locs hG => ?_)
  refine lv_i2l E.1 E.2.1 dX12_stepWidth_9 rfl ?_
  refine lv_lstore_n (lv' := [(2, .long (Int32.toInt64 r6)), (0, .ref (ad 0)), (1, .int x1)]) E.1 E.2.1 dX12_stepWidth_10 rfl hl (by decide) rfl (fun ls hl => ?_)
  refine lv_iconst (v := (0 : Int32)) E.1 E.2.1 dX12_stepWidth_11 (by decide) ?_
  refine lv_istore (lv' := [(4, .int (0 : Int32)), (2, .long (Int32.toInt64 r6)), (0, .ref (ad 0)), (1, .int x1)]) E.1 E.2.1 dX12_stepWidth_12 hl (by decide) rfl (fun ls hl => ?_)
  exact L2_at (P := fun σ x2 x4 => At p l e 1 24 s m args below meth c D (mw ad cy) (mas ad) cy (some (.int r)) σ' 5 14 [(0, .ref (ad 0)), (2, .long x2), (4, .int x4)] [] σ) (fun g hg => k_m_X12_stepWidth_14 E hr hlk g hg) FUEL _ _ _ hf _ _ _ hG (lv_sub hl [2, 1, 0] rfl)

set_option maxHeartbeats 4000000 in
set_option maxRecDepth 100000 in
theorem c_m_X12_width {l : Launch} {D : va_G} {ad : Nat → Nat} {cy : ClassId} {σ : SS} {x1 : Int32} {x2 : Int32} {r : Int32} {σ' : SS} (hf : f_m_X12_width σ x1 x2 = some (r, σ')) : Ctr l D (mw ad cy) (mas ad) cy yX12_width cX12_width 3 (some FieldType.int) 2 48 [.ref (ad 0), .int x1, .int x2] σ (some (.int r)) σ' := by
  refine Ctr.of (mw_as ad cy) rfl (Nat.le_of_ble_eq_true rfl) (fun p e s m args below meth c ls E hr hlk hl hG => ?_)
  have hl : lv_has ls 3 [(0, .ref (ad 0)), (1, .int x1), (2, .int x2)] := hl
  unfold f_m_X12_width at hf
  refine lv_aload_n E.1 E.2.1 dX12_width_0 rfl (lv_at hl 0 rfl) ?_
  refine lv_iconst (v := (0 : Int32)) E.1 E.2.1 dX12_width_1 (by decide) ?_
  refine fp_m_X12_59_0 E hG dX12_width_2 (fun H locs hG => ?_)
  refine lv_iload_n E.1 E.2.1 dX12_width_5 rfl (lv_at hl 1 rfl) ?_
  obtain ⟨r6, σ6, hcl, hf⟩ := bd_some hf
  refine cl_S (rest := []) (st1 := [.int r6]) (As := [.int x1]) E hG (c_m_X12_isKind hcl) Wd_939 mi_X12_isKind ⟨Nat.le_of_ble_eq_true rfl, Nat.le_of_ble_eq_true rfl, Nat.zero_le _, Nat.zero_le _⟩ rfl hl.1 rfl (Nat.le_of_ble_eq_true rfl) dX12_width_6 rfl (fun H locs hG => ?_)
  refine lv_if_eq (tgt := 19) E.1 E.2.1 dX12_width_9 (by decide) (fun hc => ?_) (fun hc => ?_)
  · replace hf := (if_pos hc).symm.trans hf
    refine lv_iconst (v := (-1 : Int32)) E.1 E.2.1 dX12_width_19 (by decide) ?_
    exact r_i E hr hlk hG hf dX12_width_20
  · replace hf := (if_neg hc).symm.trans hf
    refine lv_iload_n E.1 E.2.1 dX12_width_12 rfl (lv_at hl 2 rfl) ?_
    obtain ⟨r13, σ13, hcl, hf⟩ := bd_some hf
    refine cl_S (rest := []) (st1 := [.int r13]) (As := [.int x2]) E hG (c_m_X12_isSign hcl) Wd_833 mi_X12_isSign ⟨Nat.le_of_ble_eq_true rfl, Nat.le_of_ble_eq_true rfl, Nat.zero_le _, Nat.zero_le _⟩ rfl hl.1 rfl (Nat.le_of_ble_eq_true rfl) dX12_width_13 rfl (fun H locs hG => ?_)
    refine lv_if_ne (tgt := 21) E.1 E.2.1 dX12_width_16 (by decide) (fun hc => ?_) (fun hc => ?_)
    · replace hf := (if_neg hc).symm.trans hf
      refine lv_aload_n E.1 E.2.1 dX12_width_21 rfl (lv_at hl 0 rfl) ?_
      obtain ⟨r22, σ22, hcl, hf⟩ := bd_some hf
      refine cl_V (rest := []) (st1 := []) (As := []) E hG (c_m_X12_findWords hcl) Wd_942 mi_X12_findWords ⟨Nat.le_of_ble_eq_true rfl, Nat.le_of_ble_eq_true rfl, Nat.zero_le _, Nat.zero_le _⟩ 13 0 rfl rfl rfl hl.1 rfl (Nat.le_of_ble_eq_true rfl) dX12_width_22 rfl (fun H locs hG => ?_)
      refine lv_iload_n E.1 E.2.1 dX12_width_25 rfl (lv_at hl 1 rfl) ?_
      refine lv_if_ne (tgt := 38) E.1 E.2.1 dX12_width_26 (by decide) (fun hc => ?_) (fun hc => ?_)
      · replace hf := (if_neg hc).symm.trans hf
        refine lv_aload_n E.1 E.2.1 dX12_width_38 rfl (lv_at hl 0 rfl) ?_
        refine lv_iload_n E.1 E.2.1 dX12_width_39 rfl (lv_at hl 2 rfl) ?_
        obtain ⟨r40, σ40, hcl, hf⟩ := bd_some hf
        refine cl_V (rest := []) (st1 := [.int r40]) (As := [.int x2]) E hG (c_m_X12_stepWidth hcl) Wd_950 mi_X12_stepWidth ⟨Nat.le_of_ble_eq_true rfl, Nat.le_of_ble_eq_true rfl, Nat.zero_le _, Nat.zero_le _⟩ 13 0 rfl rfl rfl hl.1 rfl (Nat.le_of_ble_eq_true rfl) dX12_width_40 rfl (fun H locs hG => ?_)
        exact r_i E hr hlk hG hf dX12_width_43
      · replace hf := (if_pos hc).symm.trans hf
        refine lv_aload_n E.1 E.2.1 dX12_width_29 rfl (lv_at hl 0 rfl) ?_
        refine fg_m_X12_31_0 E hG dX12_width_30 ?_
        refine lv_iload_n E.1 E.2.1 dX12_width_33 rfl (lv_at hl 2 rfl) ?_
        obtain ⟨hin, hf⟩ := gd_some hf
        refine al_m_8 E hG hin dX12_width_34 ?_
        refine lv_goto (tgt := 43) E.1 E.2.1 dX12_width_35 (by decide) ?_
        exact r_i E hr hlk hG hf dX12_width_43
    · replace hf := (if_pos hc).symm.trans hf
      refine lv_iconst (v := (-1 : Int32)) E.1 E.2.1 dX12_width_19 (by decide) ?_
      exact r_i E hr hlk hG hf dX12_width_20

set_option maxHeartbeats 4000000 in
set_option maxRecDepth 100000 in
theorem k_m_X12_bits_56 {p : Program} {l : Launch} {e : Env} {s : State} {m : MethodId} {args : Array Value} {below : List Frame} {meth : Method} {c : Code} {D : va_G} {ad : Nat → Nat} {cy : ClassId} {r : Int32} {σ' : SS} (E : CallFix p m c cX12_bits 4 s args TT yX12_bits.cls) (hr : meth.sig.returnType = (some FieldType.int)) (hlk : meth.locks = false) (g22 : SS → Int32 → Int32 → Int32 → Option (Int32 × SS)) (hg22 : ∀ (σ : SS) (x1 : Int32) (x2 : Int32) (x3 : Int32), g22 σ x1 x2 x3 = some (r, σ') → At p l e 2 48 s m args below meth c D (mw ad cy) (mas ad) cy (some (.int r)) σ' 4 22 [(0, .ref (ad 0)), (1, .int x1), (2, .int x2), (3, .int x3)] [] σ) : ∀ (σ : SS) (x1 : Int32) (x3 : Int32) (y0 : Int32) (y1 : Int32) (y2 : Int32), f_m_X12_bits_56 g22 σ x1 x3 y0 y1 y2 = some (r, σ') → At p l e 2 48 s m args below meth c D (mw ad cy) (mas ad) cy (some (.int r)) σ' 4 56 [(0, .ref (ad 0)), (1, .int x1), (3, .int x3)] [.int y2, .int y1, .int y0] σ := by
  intro σ x1 x3 y0 y1 y2 hf H locs ls hG hl
  unfold f_m_X12_bits_56 at hf
  refine lv_imul E.1 E.2.1 dX12_bits_56 ?_
  refine lv_iadd E.1 E.2.1 dX12_bits_57 ?_
  refine lv_istore_n (lv' := [(2, .int (y0 + (y1 * y2))), (0, .ref (ad 0)), (1, .int x1), (3, .int x3)]) E.1 E.2.1 dX12_bits_58 rfl hl (by decide) rfl (fun ls hl => ?_)
  refine lv_iinc (v := (x3 + (1 : Int32))) (lv' := [(3, .int (x3 + (1 : Int32))), (2, .int (y0 + (y1 * y2))), (0, .ref (ad 0)), (1, .int x1)]) E.1 E.2.1 dX12_bits_59 hl (k := 3) rfl rfl (by decide) rfl (fun ls hl => ?_)
  refine lv_goto (tgt := 22) E.1 E.2.1 dX12_bits_62 (by decide) ?_
  exact hg22 _ _ _ _ hf _ _ _ hG (lv_sub hl [2, 3, 1, 0] rfl)

set_option maxHeartbeats 4000000 in
set_option maxRecDepth 100000 in
theorem k_m_X12_bits_22 {p : Program} {l : Launch} {e : Env} {s : State} {m : MethodId} {args : Array Value} {below : List Frame} {meth : Method} {c : Code} {D : va_G} {ad : Nat → Nat} {cy : ClassId} {r : Int32} {σ' : SS} (E : CallFix p m c cX12_bits 4 s args TT yX12_bits.cls) (hr : meth.sig.returnType = (some FieldType.int)) (hlk : meth.locks = false) (g22 : SS → Int32 → Int32 → Int32 → Option (Int32 × SS)) (hg22 : ∀ (σ : SS) (x1 : Int32) (x2 : Int32) (x3 : Int32), g22 σ x1 x2 x3 = some (r, σ') → At p l e 2 48 s m args below meth c D (mw ad cy) (mas ad) cy (some (.int r)) σ' 4 22 [(0, .ref (ad 0)), (1, .int x1), (2, .int x2), (3, .int x3)] [] σ) : ∀ (σ : SS) (x1 : Int32) (x2 : Int32) (x3 : Int32), f_m_X12_bits_22 g22 σ x1 x2 x3 = some (r, σ') → At p l e 2 48 s m args below meth c D (mw ad cy) (mas ad) cy (some (.int r)) σ' 4 22 [(0, .ref (ad 0)), (1, .int x1), (2, .int x2), (3, .int x3)] [] σ := by
  intro σ x1 x2 x3 hf H locs ls hG hl
  unfold f_m_X12_bits_22 at hf
  refine lv_iload_n E.1 E.2.1 dX12_bits_22 rfl (lv_at hl 3 rfl) ?_
  refine lv_bipush (v := (16 : Int32)) E.1 E.2.1 dX12_bits_23 (by decide) ?_
  refine lv_icmp_ge (tgt := 65) E.1 E.2.1 dX12_bits_25 (by decide) (fun hc => ?_) (fun hc => ?_)
  · replace hf := (if_pos hc).symm.trans hf
    refine lv_iload_n E.1 E.2.1 dX12_bits_65 rfl (lv_at hl 2 rfl) ?_
    exact r_i E hr hlk hG hf dX12_bits_66
  · replace hf := (if_neg hc).symm.trans hf
    refine lv_iload_n E.1 E.2.1 dX12_bits_28 rfl (lv_at hl 2 rfl) ?_
    refine lv_aload_n E.1 E.2.1 dX12_bits_29 rfl (lv_at hl 0 rfl) ?_
    refine lv_iload_n E.1 E.2.1 dX12_bits_30 rfl (lv_at hl 3 rfl) ?_
    refine lv_aload_n E.1 E.2.1 dX12_bits_31 rfl (lv_at hl 0 rfl) ?_
    refine fg_m_X12_72_0 E hG dX12_bits_32 ?_
    obtain ⟨r35, σ35, hcl, hf⟩ := bd_some hf
    refine cl_V (rest := [.int x2]) (st1 := [.int r35, .int x2]) (As := [.int x3, .int (σ.1 1)]) E hG (c_m_X12_often hcl) Wd_921 mi_X12_often ⟨Nat.le_of_ble_eq_true rfl, Nat.le_of_ble_eq_true rfl, Nat.zero_le _, Nat.zero_le _⟩ 13 0 rfl rfl rfl hl.1 rfl (Nat.le_of_ble_eq_true rfl) dX12_bits_35 rfl (fun H locs hG => ?_)
    refine lv_iload_n E.1 E.2.1 dX12_bits_38 rfl (lv_at hl 1 rfl) ?_
    refine lv_if_ne (tgt := 51) E.1 E.2.1 dX12_bits_39 (by decide) (fun hc => ?_) (fun hc => ?_)
    · replace hf := (if_neg hc).symm.trans hf
      refine lv_aload_n E.1 E.2.1 dX12_bits_51 rfl (lv_at hl 0 rfl) ?_
      refine lv_iload_n E.1 E.2.1 dX12_bits_52 rfl (lv_at hl 3 rfl) ?_
      obtain ⟨r53, σ53, hcl, hf⟩ := bd_some hf
      refine cl_V (rest := [.int r35, .int x2]) (st1 := [.int r53, .int r35, .int x2]) (As := [.int x3]) E hG (c_m_X12_stepWidth hcl) Wd_950 mi_X12_stepWidth ⟨Nat.le_of_ble_eq_true rfl, Nat.le_of_ble_eq_true rfl, Nat.zero_le _, Nat.zero_le _⟩ 13 0 rfl rfl rfl hl.1 rfl (Nat.le_of_ble_eq_true rfl) dX12_bits_53 rfl (fun H locs hG => ?_)
      exact k_m_X12_bits_56 E hr hlk g22 hg22 _ _ _ _ _ _ hf _ _ _ hG (lv_sub hl [0, 1, 3] rfl)
    · replace hf := (if_pos hc).symm.trans hf
      refine lv_aload_n E.1 E.2.1 dX12_bits_42 rfl (lv_at hl 0 rfl) ?_
      refine fg_m_X12_31_0 E hG dX12_bits_43 ?_
      refine lv_iload_n E.1 E.2.1 dX12_bits_46 rfl (lv_at hl 3 rfl) ?_
      obtain ⟨hin, hf⟩ := gd_some hf
      refine al_m_8 E hG hin dX12_bits_47 ?_
      refine lv_goto (tgt := 56) E.1 E.2.1 dX12_bits_48 (by decide) ?_
      exact k_m_X12_bits_56 E hr hlk g22 hg22 _ _ _ _ _ _ hf _ _ _ hG (lv_sub hl [0, 1, 3] rfl)

set_option maxHeartbeats 4000000 in
set_option maxRecDepth 100000 in
theorem c_m_X12_bits {l : Launch} {D : va_G} {ad : Nat → Nat} {cy : ClassId} {σ : SS} {x1 : Int32} {r : Int32} {σ' : SS} (hf : f_m_X12_bits σ x1 = some (r, σ')) : Ctr l D (mw ad cy) (mas ad) cy yX12_bits cX12_bits 4 (some FieldType.int) 2 48 [.ref (ad 0), .int x1] σ (some (.int r)) σ' := by
  refine Ctr.of (mw_as ad cy) rfl (Nat.le_of_ble_eq_true rfl) (fun p e s m args below meth c ls E hr hlk hl hG => ?_)
  have hl : lv_has ls 4 [(0, .ref (ad 0)), (1, .int x1)] := hl
  unfold f_m_X12_bits at hf
  refine lv_aload_n E.1 E.2.1 dX12_bits_0 rfl (lv_at hl 0 rfl) ?_
  refine lv_iconst (v := (0 : Int32)) E.1 E.2.1 dX12_bits_1 (by decide) ?_
  refine fp_m_X12_59_0 E hG dX12_bits_2 (fun H locs hG => ?_)
  refine lv_iload_n E.1 E.2.1 dX12_bits_5 rfl (lv_at hl 1 rfl) ?_
  obtain ⟨r6, σ6, hcl, hf⟩ := bd_some hf
  refine cl_S (rest := []) (st1 := [.int r6]) (As := [.int x1]) E hG (c_m_X12_isKind hcl) Wd_939 mi_X12_isKind ⟨Nat.le_of_ble_eq_true rfl, Nat.le_of_ble_eq_true rfl, Nat.zero_le _, Nat.zero_le _⟩ rfl hl.1 rfl (Nat.le_of_ble_eq_true rfl) dX12_bits_6 rfl (fun H locs hG => ?_)
  refine lv_if_ne (tgt := 14) E.1 E.2.1 dX12_bits_9 (by decide) (fun hc => ?_) (fun hc => ?_)
  · replace hf := (if_neg hc).symm.trans hf
    refine lv_aload_n E.1 E.2.1 dX12_bits_14 rfl (lv_at hl 0 rfl) ?_
    obtain ⟨r15, σ15, hcl, hf⟩ := bd_some hf
    refine cl_V (rest := []) (st1 := []) (As := []) E hG (c_m_X12_findWords hcl) Wd_942 mi_X12_findWords ⟨Nat.le_of_ble_eq_true rfl, Nat.le_of_ble_eq_true rfl, Nat.zero_le _, Nat.zero_le _⟩ 13 0 rfl rfl rfl hl.1 rfl (Nat.le_of_ble_eq_true rfl) dX12_bits_15 rfl (fun H locs hG => ?_)
    refine lv_iconst (v := (0 : Int32)) E.1 E.2.1 dX12_bits_18 (by decide) ?_
    refine lv_istore_n (lv' := [(2, .int (0 : Int32)), (0, .ref (ad 0)), (1, .int x1)]) E.1 E.2.1 dX12_bits_19 rfl hl (by decide) rfl (fun ls hl => ?_)
    refine lv_iconst (v := (0 : Int32)) E.1 E.2.1 dX12_bits_20 (by decide) ?_
    refine lv_istore_n (lv' := [(3, .int (0 : Int32)), (2, .int (0 : Int32)), (0, .ref (ad 0)), (1, .int x1)]) E.1 E.2.1 dX12_bits_21 rfl hl (by decide) rfl (fun ls hl => ?_)
    exact L3_at (P := fun σ x1 x2 x3 => At p l e 2 48 s m args below meth c D (mw ad cy) (mas ad) cy (some (.int r)) σ' 4 22 [(0, .ref (ad 0)), (1, .int x1), (2, .int x2), (3, .int x3)] [] σ) (fun g hg => k_m_X12_bits_22 E hr hlk g hg) FUEL _ _ _ _ hf _ _ _ hG (lv_sub hl [2, 3, 1, 0] rfl)
  · replace hf := (if_pos hc).symm.trans hf
    refine lv_iconst (v := (-1 : Int32)) E.1 E.2.1 dX12_bits_12 (by decide) ?_
    exact r_i E hr hlk hG hf dX12_bits_13

set_option maxHeartbeats 4000000 in
set_option maxRecDepth 100000 in
theorem k_m_X12_alike_2 {p : Program} {l : Launch} {e : Env} {s : State} {m : MethodId} {args : Array Value} {below : List Frame} {meth : Method} {c : Code} {D : va_G} {ad : Nat → Nat} {cy : ClassId} {r : Int32} {σ' : SS} (E : CallFix p m c cX12_alike 4 s args TT yX12_alike.cls) (hr : meth.sig.returnType = (some FieldType.int)) (hlk : meth.locks = false) (g2 : SS → Int32 → Int32 → Int32 → Option (Int32 × SS)) (hg2 : ∀ (σ : SS) (x1 : Int32) (x2 : Int32) (x3 : Int32), g2 σ x1 x2 x3 = some (r, σ') → At p l e 0 0 s m args below meth c D (mw ad cy) (mas ad) cy (some (.int r)) σ' 4 2 [(0, .ref (ad 0)), (1, .int x1), (2, .int x2), (3, .int x3)] [] σ) : ∀ (σ : SS) (x1 : Int32) (x2 : Int32) (x3 : Int32), f_m_X12_alike_2 g2 σ x1 x2 x3 = some (r, σ') → At p l e 0 0 s m args below meth c D (mw ad cy) (mas ad) cy (some (.int r)) σ' 4 2 [(0, .ref (ad 0)), (1, .int x1), (2, .int x2), (3, .int x3)] [] σ := by
  intro σ x1 x2 x3 hf H locs ls hG hl
  unfold f_m_X12_alike_2 at hf
  refine lv_iload_n E.1 E.2.1 dX12_alike_2 rfl (lv_at hl 1 rfl) ?_
  refine lv_iload_n E.1 E.2.1 dX12_alike_3 rfl (lv_at hl 3 rfl) ?_
  refine lv_iadd E.1 E.2.1 dX12_alike_4 ?_
  refine lv_aload_n E.1 E.2.1 dX12_alike_5 rfl (lv_at hl 0 rfl) ?_
  refine fg_m_X12_72_0 E hG dX12_alike_6 ?_
  refine lv_icmp_ge (tgt := 37) E.1 E.2.1 dX12_alike_9 (by decide) (fun hc => ?_) (fun hc => ?_)
  · replace hf := (if_pos hc).symm.trans hf
    refine lv_iload_n E.1 E.2.1 dX12_alike_37 rfl (lv_at hl 3 rfl) ?_
    exact r_i E hr hlk hG hf dX12_alike_38
  · replace hf := (if_neg hc).symm.trans hf
    refine lv_aload_n E.1 E.2.1 dX12_alike_12 rfl (lv_at hl 0 rfl) ?_
    refine fg_m_X12_7_0 E hG dX12_alike_13 ?_
    refine lv_iload_n E.1 E.2.1 dX12_alike_16 rfl (lv_at hl 1 rfl) ?_
    refine lv_iload_n E.1 E.2.1 dX12_alike_17 rfl (lv_at hl 3 rfl) ?_
    refine lv_iadd E.1 E.2.1 dX12_alike_18 ?_
    obtain ⟨hin, hf⟩ := gd_some hf
    refine al_m_1 E hG hin dX12_alike_19 ?_
    refine lv_aload_n E.1 E.2.1 dX12_alike_20 rfl (lv_at hl 0 rfl) ?_
    refine fg_m_X12_7_0 E hG dX12_alike_21 ?_
    refine lv_iload_n E.1 E.2.1 dX12_alike_24 rfl (lv_at hl 2 rfl) ?_
    refine lv_iload_n E.1 E.2.1 dX12_alike_25 rfl (lv_at hl 3 rfl) ?_
    refine lv_iadd E.1 E.2.1 dX12_alike_26 ?_
    obtain ⟨hin, hf⟩ := gd_some hf
    refine al_m_1 E hG hin dX12_alike_27 ?_
    refine lv_icmp_ne (tgt := 37) E.1 E.2.1 dX12_alike_28 (by decide) (fun hc => ?_) (fun hc => ?_)
    · replace hf := (if_neg hc).symm.trans hf
      refine lv_iload_n E.1 E.2.1 dX12_alike_37 rfl (lv_at hl 3 rfl) ?_
      exact r_i E hr hlk hG hf dX12_alike_38
    · replace hf := (if_pos hc).symm.trans hf
      refine lv_iinc (v := (x3 + (1 : Int32))) (lv' := [(3, .int (x3 + (1 : Int32))), (0, .ref (ad 0)), (1, .int x1), (2, .int x2)]) E.1 E.2.1 dX12_alike_31 hl (k := 3) rfl rfl (by decide) rfl (fun ls hl => ?_)
      refine lv_goto (tgt := 2) E.1 E.2.1 dX12_alike_34 (by decide) ?_
      exact hg2 _ _ _ _ hf _ _ _ hG (lv_sub hl [1, 2, 3, 0] rfl)

set_option maxHeartbeats 4000000 in
set_option maxRecDepth 100000 in
theorem c_m_X12_alike {l : Launch} {D : va_G} {ad : Nat → Nat} {cy : ClassId} {σ : SS} {x1 : Int32} {x2 : Int32} {r : Int32} {σ' : SS} (hf : f_m_X12_alike σ x1 x2 = some (r, σ')) : Ctr l D (mw ad cy) (mas ad) cy yX12_alike cX12_alike 4 (some FieldType.int) 0 0 [.ref (ad 0), .int x1, .int x2] σ (some (.int r)) σ' := by
  refine Ctr.of (mw_as ad cy) rfl (Nat.le_of_ble_eq_true rfl) (fun p e s m args below meth c ls E hr hlk hl hG => ?_)
  have hl : lv_has ls 4 [(0, .ref (ad 0)), (1, .int x1), (2, .int x2)] := hl
  unfold f_m_X12_alike at hf
  refine lv_iconst (v := (0 : Int32)) E.1 E.2.1 dX12_alike_0 (by decide) ?_
  refine lv_istore_n (lv' := [(3, .int (0 : Int32)), (0, .ref (ad 0)), (1, .int x1), (2, .int x2)]) E.1 E.2.1 dX12_alike_1 rfl hl (by decide) rfl (fun ls hl => ?_)
  exact L3_at (P := fun σ x1 x2 x3 => At p l e 0 0 s m args below meth c D (mw ad cy) (mas ad) cy (some (.int r)) σ' 4 2 [(0, .ref (ad 0)), (1, .int x1), (2, .int x2), (3, .int x3)] [] σ) (fun g hg => k_m_X12_alike_2 E hr hlk g hg) FUEL _ _ _ _ hf _ _ _ hG (lv_sub hl [1, 2, 3, 0] rfl)

set_option maxHeartbeats 4000000 in
set_option maxRecDepth 100000 in
theorem c_m_X12_put {l : Launch} {D : va_G} {ad : Nat → Nat} {cy : ClassId} {σ : SS} {x1 : Int32} {x2 : Int32} {x3 : Int32} {r : Unit} {σ' : SS} (hf : f_m_X12_put σ x1 x2 x3 = some (r, σ')) : Ctr l D (mw ad cy) (mas ad) cy yX12_put cX12_put 4 none 0 0 [.ref (ad 0), .int x1, .int x2, .int x3] σ (none) σ' := by
  refine Ctr.of (mw_as ad cy) rfl (Nat.le_of_ble_eq_true rfl) (fun p e s m args below meth c ls E hr hlk hl hG => ?_)
  have hl : lv_has ls 4 [(0, .ref (ad 0)), (1, .int x1), (2, .int x2), (3, .int x3)] := hl
  unfold f_m_X12_put at hf
  refine lv_aload_n E.1 E.2.1 dX12_put_0 rfl (lv_at hl 0 rfl) ?_
  refine fg_m_X12_34_0 E hG dX12_put_1 ?_
  refine lv_aload_n E.1 E.2.1 dX12_put_4 rfl (lv_at hl 0 rfl) ?_
  refine fg_m_X12_164_0 E hG dX12_put_5 ?_
  refine lv_iload_n E.1 E.2.1 dX12_put_8 rfl (lv_at hl 1 rfl) ?_
  obtain ⟨hin, hf⟩ := gd_some hf
  refine as_m_9 E hG hin dX12_put_9 (fun H locs hG => ?_)
  refine lv_aload_n E.1 E.2.1 dX12_put_10 rfl (lv_at hl 0 rfl) ?_
  refine fg_m_X12_37_0 E hG dX12_put_11 ?_
  refine lv_aload_n E.1 E.2.1 dX12_put_14 rfl (lv_at hl 0 rfl) ?_
  refine fg_m_X12_164_0 E hG dX12_put_15 ?_
  refine lv_iload_n E.1 E.2.1 dX12_put_18 rfl (lv_at hl 2 rfl) ?_
  obtain ⟨hin, hf⟩ := gd_some hf
  refine as_m_10 E hG hin dX12_put_19 (fun H locs hG => ?_)
  refine lv_aload_n E.1 E.2.1 dX12_put_20 rfl (lv_at hl 0 rfl) ?_
  refine fg_m_X12_40_0 E hG dX12_put_21 ?_
  refine lv_aload_n E.1 E.2.1 dX12_put_24 rfl (lv_at hl 0 rfl) ?_
  refine fg_m_X12_164_0 E hG dX12_put_25 ?_
  refine lv_iload_n E.1 E.2.1 dX12_put_28 rfl (lv_at hl 3 rfl) ?_
  obtain ⟨hin, hf⟩ := gd_some hf
  refine as_m_11 E hG hin dX12_put_29 (fun H locs hG => ?_)
  refine lv_aload_n E.1 E.2.1 dX12_put_30 rfl (lv_at hl 0 rfl) ?_
  refine lv_dup E.1 E.2.1 dX12_put_31 rfl ?_
  refine fg_m_X12_164_0 E hG dX12_put_32 ?_
  refine lv_iconst (v := (1 : Int32)) E.1 E.2.1 dX12_put_35 (by decide) ?_
  refine lv_iadd E.1 E.2.1 dX12_put_36 ?_
  refine fp_m_X12_164_0 E hG dX12_put_37 (fun H locs hG => ?_)
  exact r_v E hr hlk hG hf dX12_put_40

set_option maxHeartbeats 4000000 in
set_option maxRecDepth 100000 in
theorem k_m_X12_findFactors_81 {p : Program} {l : Launch} {e : Env} {s : State} {m : MethodId} {args : Array Value} {below : List Frame} {meth : Method} {c : Code} {D : va_G} {ad : Nat → Nat} {cy : ClassId} {r : Unit} {σ' : SS} (E : CallFix p m c cX12_findFactors 6 s args TT yX12_findFactors.cls) (hr : meth.sig.returnType = none) (hlk : meth.locks = false) (g7 : SS → Int32 → Option (Unit × SS)) (hg7 : ∀ (σ : SS) (x1 : Int32), g7 σ x1 = some (r, σ') → At p l e 1 23 s m args below meth c D (mw ad cy) (mas ad) cy (none) σ' 6 7 [(0, .ref (ad 0)), (1, .int x1)] [] σ) : ∀ (σ : SS) (x1 : Int32) (x2 : Int32) (x3 : Int32) (y1 : Int32) (y2 : Int32), f_m_X12_findFactors_81 g7 σ x1 x2 x3 y1 y2 = some (r, σ') → At p l e 1 23 s m args below meth c D (mw ad cy) (mas ad) cy (none) σ' 6 81 [(0, .ref (ad 0)), (1, .int x1), (2, .int x2), (3, .int x3)] [.int y2, .int y1, .ref (ad 0)] σ := by
  intro σ x1 x2 x3 y1 y2 hf H locs ls hG hl
  unfold f_m_X12_findFactors_81 at hf
  refine lv_iload_n E.1 E.2.1 dX12_findFactors_81 rfl (lv_at hl 3 rfl) ?_
  obtain ⟨r82, σ82, hcl, hf⟩ := bd_some hf
  refine cl_V (rest := []) (st1 := []) (As := [.int y1, .int y2, .int x3]) E hG (c_m_X12_put hcl) Wd_974 mi_X12_put ⟨Nat.le_of_ble_eq_true rfl, Nat.le_of_ble_eq_true rfl, Nat.zero_le _, Nat.zero_le _⟩ 13 0 rfl rfl rfl hl.1 rfl (Nat.le_of_ble_eq_true rfl) dX12_findFactors_82 rfl (fun H locs hG => ?_)
  refine lv_iload_n E.1 E.2.1 dX12_findFactors_85 rfl (lv_at hl 1 rfl) ?_
  refine lv_iload_n E.1 E.2.1 dX12_findFactors_86 rfl (lv_at hl 2 rfl) ?_
  refine lv_if_ne (tgt := 94) E.1 E.2.1 dX12_findFactors_87 (by decide) (fun hc => ?_) (fun hc => ?_)
  · replace hf := (if_neg hc).symm.trans hf
    refine lv_iload_n E.1 E.2.1 dX12_findFactors_94 rfl (lv_at hl 2 rfl) ?_
    refine lv_iadd E.1 E.2.1 dX12_findFactors_95 ?_
    refine lv_istore_n (lv' := [(1, .int (x1 + x2)), (0, .ref (ad 0)), (2, .int x2), (3, .int x3)]) E.1 E.2.1 dX12_findFactors_96 rfl hl (by decide) rfl (fun ls hl => ?_)
    refine lv_goto (tgt := 7) E.1 E.2.1 dX12_findFactors_97 (by decide) ?_
    exact hg7 _ _ hf _ _ _ hG (lv_sub hl [1, 0] rfl)
  · replace hf := (if_pos hc).symm.trans hf
    refine lv_iconst (v := (1 : Int32)) E.1 E.2.1 dX12_findFactors_90 (by decide) ?_
    refine lv_goto (tgt := 95) E.1 E.2.1 dX12_findFactors_91 (by decide) ?_
    refine lv_iadd E.1 E.2.1 dX12_findFactors_95 ?_
    refine lv_istore_n (lv' := [(1, .int (x1 + (1 : Int32))), (0, .ref (ad 0)), (2, .int x2), (3, .int x3)]) E.1 E.2.1 dX12_findFactors_96 rfl hl (by decide) rfl (fun ls hl => ?_)
    refine lv_goto (tgt := 7) E.1 E.2.1 dX12_findFactors_97 (by decide) ?_
    exact hg7 _ _ hf _ _ _ hG (lv_sub hl [1, 0] rfl)

set_option maxHeartbeats 4000000 in
set_option maxRecDepth 100000 in
theorem k_m_X12_findFactors_50 {p : Program} {l : Launch} {e : Env} {s : State} {m : MethodId} {args : Array Value} {below : List Frame} {meth : Method} {c : Code} {D : va_G} {ad : Nat → Nat} {cy : ClassId} {r : Unit} {σ' : SS} (E : CallFix p m c cX12_findFactors 6 s args TT yX12_findFactors.cls) (hr : meth.sig.returnType = none) (hlk : meth.locks = false) (g7 : SS → Int32 → Option (Unit × SS)) (hg7 : ∀ (σ : SS) (x1 : Int32), g7 σ x1 = some (r, σ') → At p l e 1 23 s m args below meth c D (mw ad cy) (mas ad) cy (none) σ' 6 7 [(0, .ref (ad 0)), (1, .int x1)] [] σ) (g23 : SS → Int32 → Int32 → Int32 → Int32 → Option (Unit × SS)) (hg23 : ∀ (σ : SS) (x1 : Int32) (x2 : Int32) (x3 : Int32) (x4 : Int32), g23 σ x1 x2 x3 x4 = some (r, σ') → At p l e 1 23 s m args below meth c D (mw ad cy) (mas ad) cy (none) σ' 6 23 [(0, .ref (ad 0)), (1, .int x1), (2, .int x2), (3, .int x3), (4, .int x4)] [] σ) : ∀ (σ : SS) (x1 : Int32) (x2 : Int32) (x4 : Int32) (x5 : Int32) (y0 : Int32), f_m_X12_findFactors_50 g7 g23 σ x1 x2 x4 x5 y0 = some (r, σ') → At p l e 1 23 s m args below meth c D (mw ad cy) (mas ad) cy (none) σ' 6 50 [(0, .ref (ad 0)), (1, .int x1), (2, .int x2), (4, .int x4), (5, .int x5)] [.int y0] σ := by
  intro σ x1 x2 x4 x5 y0 hf H locs ls hG hl
  unfold f_m_X12_findFactors_50 at hf
  refine lv_istore_n (lv' := [(3, .int y0), (0, .ref (ad 0)), (1, .int x1), (2, .int x2), (4, .int x4), (5, .int x5)]) E.1 E.2.1 dX12_findFactors_50 rfl hl (by decide) rfl (fun ls hl => ?_)
  refine lv_iload E.1 E.2.1 dX12_findFactors_51 (lv_at hl 5 rfl) ?_
  refine lv_iload_n E.1 E.2.1 dX12_findFactors_53 rfl (lv_at hl 3 rfl) ?_
  refine lv_icmp_le (tgt := 62) E.1 E.2.1 dX12_findFactors_54 (by decide) (fun hc => ?_) (fun hc => ?_)
  · replace hf := (if_pos hc).symm.trans hf
    refine lv_iload_n E.1 E.2.1 dX12_findFactors_62 rfl (lv_at hl 3 rfl) ?_
    refine lv_istore_n (lv' := [(2, .int x2), (3, .int y0), (0, .ref (ad 0)), (1, .int x1), (4, .int x4), (5, .int x5)]) E.1 E.2.1 dX12_findFactors_63 rfl hl (by decide) rfl (fun ls hl => ?_)
    refine lv_iinc (v := (x4 + (1 : Int32))) (lv' := [(4, .int (x4 + (1 : Int32))), (2, .int x2), (3, .int y0), (0, .ref (ad 0)), (1, .int x1), (5, .int x5)]) E.1 E.2.1 dX12_findFactors_64 hl (k := 4) rfl rfl (by decide) rfl (fun ls hl => ?_)
    refine lv_goto (tgt := 23) E.1 E.2.1 dX12_findFactors_67 (by decide) ?_
    exact hg23 _ _ _ _ _ hf _ _ _ hG (lv_sub hl [3, 4, 1, 2, 0] rfl)
  · replace hf := (if_neg hc).symm.trans hf
    refine lv_iload E.1 E.2.1 dX12_findFactors_57 (lv_at hl 5 rfl) ?_
    refine lv_goto (tgt := 63) E.1 E.2.1 dX12_findFactors_59 (by decide) ?_
    refine lv_istore_n (lv' := [(2, .int x5), (3, .int y0), (0, .ref (ad 0)), (1, .int x1), (4, .int x4), (5, .int x5)]) E.1 E.2.1 dX12_findFactors_63 rfl hl (by decide) rfl (fun ls hl => ?_)
    refine lv_iinc (v := (x4 + (1 : Int32))) (lv' := [(4, .int (x4 + (1 : Int32))), (2, .int x5), (3, .int y0), (0, .ref (ad 0)), (1, .int x1), (5, .int x5)]) E.1 E.2.1 dX12_findFactors_64 hl (k := 4) rfl rfl (by decide) rfl (fun ls hl => ?_)
    refine lv_goto (tgt := 23) E.1 E.2.1 dX12_findFactors_67 (by decide) ?_
    exact hg23 _ _ _ _ _ hf _ _ _ hG (lv_sub hl [3, 4, 1, 2, 0] rfl)

set_option maxHeartbeats 4000000 in
set_option maxRecDepth 100000 in
theorem k_m_X12_findFactors_23 {p : Program} {l : Launch} {e : Env} {s : State} {m : MethodId} {args : Array Value} {below : List Frame} {meth : Method} {c : Code} {D : va_G} {ad : Nat → Nat} {cy : ClassId} {r : Unit} {σ' : SS} (E : CallFix p m c cX12_findFactors 6 s args TT yX12_findFactors.cls) (hr : meth.sig.returnType = none) (hlk : meth.locks = false) (g7 : SS → Int32 → Option (Unit × SS)) (hg7 : ∀ (σ : SS) (x1 : Int32), g7 σ x1 = some (r, σ') → At p l e 1 23 s m args below meth c D (mw ad cy) (mas ad) cy (none) σ' 6 7 [(0, .ref (ad 0)), (1, .int x1)] [] σ) (g23 : SS → Int32 → Int32 → Int32 → Int32 → Option (Unit × SS)) (hg23 : ∀ (σ : SS) (x1 : Int32) (x2 : Int32) (x3 : Int32) (x4 : Int32), g23 σ x1 x2 x3 x4 = some (r, σ') → At p l e 1 23 s m args below meth c D (mw ad cy) (mas ad) cy (none) σ' 6 23 [(0, .ref (ad 0)), (1, .int x1), (2, .int x2), (3, .int x3), (4, .int x4)] [] σ) : ∀ (σ : SS) (x1 : Int32) (x2 : Int32) (x3 : Int32) (x4 : Int32), f_m_X12_findFactors_23 g7 g23 σ x1 x2 x3 x4 = some (r, σ') → At p l e 1 23 s m args below meth c D (mw ad cy) (mas ad) cy (none) σ' 6 23 [(0, .ref (ad 0)), (1, .int x1), (2, .int x2), (3, .int x3), (4, .int x4)] [] σ := by
  intro σ x1 x2 x3 x4 hf H locs ls hG hl
  unfold f_m_X12_findFactors_23 at hf
  refine lv_iload E.1 E.2.1 dX12_findFactors_23 (lv_at hl 4 rfl) ?_
  refine lv_iload_n E.1 E.2.1 dX12_findFactors_25 rfl (lv_at hl 1 rfl) ?_
  refine lv_icmp_ge (tgt := 70) E.1 E.2.1 dX12_findFactors_26 (by decide) (fun hc => ?_) (fun hc => ?_)
  · replace hf := (if_pos hc).symm.trans hf
    refine lv_aload_n E.1 E.2.1 dX12_findFactors_70 rfl (lv_at hl 0 rfl) ?_
    refine lv_iload_n E.1 E.2.1 dX12_findFactors_71 rfl (lv_at hl 1 rfl) ?_
    refine lv_iload_n E.1 E.2.1 dX12_findFactors_72 rfl (lv_at hl 2 rfl) ?_
    refine lv_if_ne (tgt := 80) E.1 E.2.1 dX12_findFactors_73 (by decide) (fun hc => ?_) (fun hc => ?_)
    · replace hf := (if_neg hc).symm.trans hf
      refine lv_iload_n E.1 E.2.1 dX12_findFactors_80 rfl (lv_at hl 2 rfl) ?_
      exact k_m_X12_findFactors_81 E hr hlk g7 hg7 _ _ _ _ _ _ hf _ _ _ hG (lv_sub hl [0, 1, 2, 3] rfl)
    · replace hf := (if_pos hc).symm.trans hf
      refine lv_iconst (v := (1 : Int32)) E.1 E.2.1 dX12_findFactors_76 (by decide) ?_
      refine lv_goto (tgt := 81) E.1 E.2.1 dX12_findFactors_77 (by decide) ?_
      exact k_m_X12_findFactors_81 E hr hlk g7 hg7 _ _ _ _ _ _ hf _ _ _ hG (lv_sub hl [0, 1, 2, 3] rfl)
  · replace hf := (if_neg hc).symm.trans hf
    refine lv_aload_n E.1 E.2.1 dX12_findFactors_29 rfl (lv_at hl 0 rfl) ?_
    refine lv_iload_n E.1 E.2.1 dX12_findFactors_30 rfl (lv_at hl 1 rfl) ?_
    refine lv_iload E.1 E.2.1 dX12_findFactors_31 (lv_at hl 4 rfl) ?_
    obtain ⟨r33, σ33, hcl, hf⟩ := bd_some hf
    refine cl_V (rest := []) (st1 := [.int r33]) (As := [.int x1, .int x4]) E hG (c_m_X12_alike hcl) Wd_970 mi_X12_alike ⟨Nat.le_of_ble_eq_true rfl, Nat.le_of_ble_eq_true rfl, Nat.zero_le _, Nat.zero_le _⟩ 13 0 rfl rfl rfl hl.1 rfl (Nat.le_of_ble_eq_true rfl) dX12_findFactors_33 rfl (fun H locs hG => ?_)
    refine lv_istore (lv' := [(5, .int r33), (0, .ref (ad 0)), (1, .int x1), (2, .int x2), (3, .int x3), (4, .int x4)]) E.1 E.2.1 dX12_findFactors_36 hl (by decide) rfl (fun ls hl => ?_)
    refine lv_iload E.1 E.2.1 dX12_findFactors_38 (lv_at hl 0 rfl) ?_
    refine lv_iload_n E.1 E.2.1 dX12_findFactors_40 rfl (lv_at hl 3 rfl) ?_
    refine lv_icmp_le (tgt := 49) E.1 E.2.1 dX12_findFactors_41 (by decide) (fun hc => ?_) (fun hc => ?_)
    · replace hf := (if_pos hc).symm.trans hf
      refine lv_iload_n E.1 E.2.1 dX12_findFactors_49 rfl (lv_at hl 4 rfl) ?_
      exact k_m_X12_findFactors_50 E hr hlk g7 hg7 g23 hg23 _ _ _ _ _ _ hf _ _ _ hG (lv_sub hl [1, 2, 3, 5, 0] rfl)
    · replace hf := (if_neg hc).symm.trans hf
      refine lv_iload E.1 E.2.1 dX12_findFactors_44 (lv_at hl 5 rfl) ?_
      refine lv_goto (tgt := 50) E.1 E.2.1 dX12_findFactors_46 (by decide) ?_
      exact k_m_X12_findFactors_50 E hr hlk g7 hg7 g23 hg23 _ _ _ _ _ _ hf _ _ _ hG (lv_sub hl [1, 2, 3, 5, 0] rfl)

set_option maxHeartbeats 4000000 in
set_option maxRecDepth 100000 in
theorem k_m_X12_findFactors_7 {p : Program} {l : Launch} {e : Env} {s : State} {m : MethodId} {args : Array Value} {below : List Frame} {meth : Method} {c : Code} {D : va_G} {ad : Nat → Nat} {cy : ClassId} {r : Unit} {σ' : SS} (E : CallFix p m c cX12_findFactors 6 s args TT yX12_findFactors.cls) (hr : meth.sig.returnType = none) (hlk : meth.locks = false) (g7 : SS → Int32 → Option (Unit × SS)) (hg7 : ∀ (σ : SS) (x1 : Int32), g7 σ x1 = some (r, σ') → At p l e 1 23 s m args below meth c D (mw ad cy) (mas ad) cy (none) σ' 6 7 [(0, .ref (ad 0)), (1, .int x1)] [] σ) : ∀ (σ : SS) (x1 : Int32), f_m_X12_findFactors_7 g7 σ x1 = some (r, σ') → At p l e 1 23 s m args below meth c D (mw ad cy) (mas ad) cy (none) σ' 6 7 [(0, .ref (ad 0)), (1, .int x1)] [] σ := by
  intro σ x1 hf H locs ls hG hl
  unfold f_m_X12_findFactors_7 at hf
  refine lv_iload_n E.1 E.2.1 dX12_findFactors_7 rfl (lv_at hl 1 rfl) ?_
  refine lv_aload_n E.1 E.2.1 dX12_findFactors_8 rfl (lv_at hl 0 rfl) ?_
  refine fg_m_X12_72_0 E hG dX12_findFactors_9 ?_
  refine lv_icmp_ge (tgt := 100) E.1 E.2.1 dX12_findFactors_12 (by decide) (fun hc => ?_) (fun hc => ?_)
  · replace hf := (if_pos hc).symm.trans hf
    exact r_v E hr hlk hG hf dX12_findFactors_100
  · replace hf := (if_neg hc).symm.trans hf
    refine lv_iconst (v := (0 : Int32)) E.1 E.2.1 dX12_findFactors_15 (by decide) ?_
    refine lv_istore_n (lv' := [(2, .int (0 : Int32)), (0, .ref (ad 0)), (1, .int x1)]) E.1 E.2.1 dX12_findFactors_16 rfl hl (by decide) rfl (fun ls hl => ?_)
    refine lv_bipush (v := (-2 : Int32)) E.1 E.2.1 dX12_findFactors_17 (by decide) ?_
    refine lv_istore_n (lv' := [(3, .int (-2 : Int32)), (2, .int (0 : Int32)), (0, .ref (ad 0)), (1, .int x1)]) E.1 E.2.1 dX12_findFactors_19 rfl hl (by decide) rfl (fun ls hl => ?_)
    refine lv_iconst (v := (0 : Int32)) E.1 E.2.1 dX12_findFactors_20 (by decide) ?_
    refine lv_istore (lv' := [(4, .int (0 : Int32)), (3, .int (-2 : Int32)), (2, .int (0 : Int32)), (0, .ref (ad 0)), (1, .int x1)]) E.1 E.2.1 dX12_findFactors_21 hl (by decide) rfl (fun ls hl => ?_)
    exact L4_at (P := fun σ x1 x2 x3 x4 => At p l e 1 23 s m args below meth c D (mw ad cy) (mas ad) cy (none) σ' 6 23 [(0, .ref (ad 0)), (1, .int x1), (2, .int x2), (3, .int x3), (4, .int x4)] [] σ) (fun g hg => k_m_X12_findFactors_23 E hr hlk g7 hg7 g hg) FUEL _ _ _ _ _ hf _ _ _ hG (lv_sub hl [3, 4, 2, 1, 0] rfl)

set_option maxHeartbeats 4000000 in
set_option maxRecDepth 100000 in
theorem c_m_X12_findFactors {l : Launch} {D : va_G} {ad : Nat → Nat} {cy : ClassId} {σ : SS} {r : Unit} {σ' : SS} (hf : f_m_X12_findFactors σ = some (r, σ')) : Ctr l D (mw ad cy) (mas ad) cy yX12_findFactors cX12_findFactors 6 none 1 23 [.ref (ad 0)] σ (none) σ' := by
  refine Ctr.of (mw_as ad cy) rfl (Nat.le_of_ble_eq_true rfl) (fun p e s m args below meth c ls E hr hlk hl hG => ?_)
  have hl : lv_has ls 6 [(0, .ref (ad 0))] := hl
  unfold f_m_X12_findFactors at hf
  refine lv_aload_n E.1 E.2.1 dX12_findFactors_0 rfl (lv_at hl 0 rfl) ?_
  refine lv_iconst (v := (0 : Int32)) E.1 E.2.1 dX12_findFactors_1 (by decide) ?_
  refine fp_m_X12_164_0 E hG dX12_findFactors_2 (fun H locs hG => ?_)
  refine lv_iconst (v := (0 : Int32)) E.1 E.2.1 dX12_findFactors_5 (by decide) ?_
  refine lv_istore_n (lv' := [(1, .int (0 : Int32)), (0, .ref (ad 0))]) E.1 E.2.1 dX12_findFactors_6 rfl hl (by decide) rfl (fun ls hl => ?_)
  exact L1_at (P := fun σ x1 => At p l e 1 23 s m args below meth c D (mw ad cy) (mas ad) cy (none) σ' 6 7 [(0, .ref (ad 0)), (1, .int x1)] [] σ) (fun g hg => k_m_X12_findFactors_7 E hr hlk g hg) FUEL _ _ hf _ _ _ hG (lv_sub hl [1, 0] rfl)

set_option maxHeartbeats 4000000 in
set_option maxRecDepth 100000 in
theorem k_m_X12_phraseOf_2 {p : Program} {l : Launch} {e : Env} {s : State} {m : MethodId} {args : Array Value} {below : List Frame} {meth : Method} {c : Code} {D : va_G} {ad : Nat → Nat} {cy : ClassId} {r : Int32} {σ' : SS} (E : CallFix p m c cX12_phraseOf 4 s args TT yX12_phraseOf.cls) (hr : meth.sig.returnType = (some FieldType.int)) (hlk : meth.locks = false) (g2 : SS → Int32 → Int32 → Int32 → Option (Int32 × SS)) (hg2 : ∀ (σ : SS) (x1 : Int32) (x2 : Int32) (x3 : Int32), g2 σ x1 x2 x3 = some (r, σ') → At p l e 1 23 s m args below meth c D (mw ad cy) (mas ad) cy (some (.int r)) σ' 4 2 [(0, .ref (ad 0)), (1, .int x1), (2, .int x2), (3, .int x3)] [] σ) : ∀ (σ : SS) (x1 : Int32) (x2 : Int32) (x3 : Int32), f_m_X12_phraseOf_2 g2 σ x1 x2 x3 = some (r, σ') → At p l e 1 23 s m args below meth c D (mw ad cy) (mas ad) cy (some (.int r)) σ' 4 2 [(0, .ref (ad 0)), (1, .int x1), (2, .int x2), (3, .int x3)] [] σ := by
  intro σ x1 x2 x3 hf H locs ls hG hl
  unfold f_m_X12_phraseOf_2 at hf
  refine lv_iload_n E.1 E.2.1 dX12_phraseOf_2 rfl (lv_at hl 3 rfl) ?_
  refine lv_aload_n E.1 E.2.1 dX12_phraseOf_3 rfl (lv_at hl 0 rfl) ?_
  refine fg_m_X12_164_0 E hG dX12_phraseOf_4 ?_
  refine lv_icmp_ge (tgt := 43) E.1 E.2.1 dX12_phraseOf_7 (by decide) (fun hc => ?_) (fun hc => ?_)
  · replace hf := (if_pos hc).symm.trans hf
    refine lv_bipush (v := (-2 : Int32)) E.1 E.2.1 dX12_phraseOf_43 (by decide) ?_
    exact r_i E hr hlk hG hf dX12_phraseOf_45
  · replace hf := (if_neg hc).symm.trans hf
    refine lv_aload_n E.1 E.2.1 dX12_phraseOf_10 rfl (lv_at hl 0 rfl) ?_
    refine fg_m_X12_37_0 E hG dX12_phraseOf_11 ?_
    refine lv_iload_n E.1 E.2.1 dX12_phraseOf_14 rfl (lv_at hl 3 rfl) ?_
    obtain ⟨hin, hf⟩ := gd_some hf
    refine al_m_10 E hG hin dX12_phraseOf_15 ?_
    refine lv_iload_n E.1 E.2.1 dX12_phraseOf_16 rfl (lv_at hl 2 rfl) ?_
    refine lv_icmp_ne (tgt := 37) E.1 E.2.1 dX12_phraseOf_17 (by decide) (fun hc => ?_) (fun hc => ?_)
    · replace hf := (if_neg hc).symm.trans hf
      refine lv_iinc (v := (x3 + (1 : Int32))) (lv' := [(3, .int (x3 + (1 : Int32))), (0, .ref (ad 0)), (1, .int x1), (2, .int x2)]) E.1 E.2.1 dX12_phraseOf_37 hl (k := 3) rfl rfl (by decide) rfl (fun ls hl => ?_)
      refine lv_goto (tgt := 2) E.1 E.2.1 dX12_phraseOf_40 (by decide) ?_
      exact hg2 _ _ _ _ hf _ _ _ hG (lv_sub hl [1, 2, 3, 0] rfl)
    · replace hf := (if_pos hc).symm.trans hf
      refine lv_aload_n E.1 E.2.1 dX12_phraseOf_20 rfl (lv_at hl 0 rfl) ?_
      refine lv_iload_n E.1 E.2.1 dX12_phraseOf_21 rfl (lv_at hl 1 rfl) ?_
      refine lv_aload_n E.1 E.2.1 dX12_phraseOf_22 rfl (lv_at hl 0 rfl) ?_
      refine fg_m_X12_34_0 E hG dX12_phraseOf_23 ?_
      refine lv_iload_n E.1 E.2.1 dX12_phraseOf_26 rfl (lv_at hl 3 rfl) ?_
      obtain ⟨hin, hf⟩ := gd_some hf
      refine al_m_9 E hG hin dX12_phraseOf_27 ?_
      obtain ⟨r28, σ28, hcl, hf⟩ := bd_some hf
      refine cl_V (rest := []) (st1 := [.int r28]) (As := [.int x1, .int (σ.2 8 (Int32.toNatClampNeg x3))]) E hG (c_m_X12_alike hcl) Wd_970 mi_X12_alike ⟨Nat.le_of_ble_eq_true rfl, Nat.le_of_ble_eq_true rfl, Nat.zero_le _, Nat.zero_le _⟩ 13 0 rfl rfl rfl hl.1 rfl (Nat.le_of_ble_eq_true rfl) dX12_phraseOf_28 rfl (fun H locs hG => ?_)
      refine lv_iload_n E.1 E.2.1 dX12_phraseOf_31 rfl (lv_at hl 2 rfl) ?_
      refine lv_icmp_lt (tgt := 37) E.1 E.2.1 dX12_phraseOf_32 (by decide) (fun hc => ?_) (fun hc => ?_)
      · replace hf := (if_pos hc).symm.trans hf
        refine lv_iinc (v := (x3 + (1 : Int32))) (lv' := [(3, .int (x3 + (1 : Int32))), (0, .ref (ad 0)), (1, .int x1), (2, .int x2)]) E.1 E.2.1 dX12_phraseOf_37 hl (k := 3) rfl rfl (by decide) rfl (fun ls hl => ?_)
        refine lv_goto (tgt := 2) E.1 E.2.1 dX12_phraseOf_40 (by decide) ?_
        exact hg2 _ _ _ _ hf _ _ _ hG (lv_sub hl [1, 2, 3, 0] rfl)
      · replace hf := (if_neg hc).symm.trans hf
        refine lv_iload_n E.1 E.2.1 dX12_phraseOf_35 rfl (lv_at hl 3 rfl) ?_
        exact r_i E hr hlk hG hf dX12_phraseOf_36

set_option maxHeartbeats 4000000 in
set_option maxRecDepth 100000 in
theorem c_m_X12_phraseOf {l : Launch} {D : va_G} {ad : Nat → Nat} {cy : ClassId} {σ : SS} {x1 : Int32} {x2 : Int32} {r : Int32} {σ' : SS} (hf : f_m_X12_phraseOf σ x1 x2 = some (r, σ')) : Ctr l D (mw ad cy) (mas ad) cy yX12_phraseOf cX12_phraseOf 4 (some FieldType.int) 1 23 [.ref (ad 0), .int x1, .int x2] σ (some (.int r)) σ' := by
  refine Ctr.of (mw_as ad cy) rfl (Nat.le_of_ble_eq_true rfl) (fun p e s m args below meth c ls E hr hlk hl hG => ?_)
  have hl : lv_has ls 4 [(0, .ref (ad 0)), (1, .int x1), (2, .int x2)] := hl
  unfold f_m_X12_phraseOf at hf
  refine lv_iconst (v := (0 : Int32)) E.1 E.2.1 dX12_phraseOf_0 (by decide) ?_
  refine lv_istore_n (lv' := [(3, .int (0 : Int32)), (0, .ref (ad 0)), (1, .int x1), (2, .int x2)]) E.1 E.2.1 dX12_phraseOf_1 rfl hl (by decide) rfl (fun ls hl => ?_)
  exact L3_at (P := fun σ x1 x2 x3 => At p l e 1 23 s m args below meth c D (mw ad cy) (mas ad) cy (some (.int r)) σ' 4 2 [(0, .ref (ad 0)), (1, .int x1), (2, .int x2), (3, .int x3)] [] σ) (fun g hg => k_m_X12_phraseOf_2 E hr hlk g hg) FUEL _ _ _ _ hf _ _ _ hG (lv_sub hl [1, 2, 3, 0] rfl)

set_option maxHeartbeats 4000000 in
set_option maxRecDepth 100000 in
theorem k_m_X12_findPhrases_78 {p : Program} {l : Launch} {e : Env} {s : State} {m : MethodId} {args : Array Value} {below : List Frame} {meth : Method} {c : Code} {D : va_G} {ad : Nat → Nat} {cy : ClassId} {r : Unit} {σ' : SS} (E : CallFix p m c cX12_findPhrases 5 s args TT yX12_findPhrases.cls) (hr : meth.sig.returnType = none) (hlk : meth.locks = false) (g7 : SS → Int32 → Option (Unit × SS)) (hg7 : ∀ (σ : SS) (x1 : Int32), g7 σ x1 = some (r, σ') → At p l e 2 46 s m args below meth c D (mw ad cy) (mas ad) cy (none) σ' 5 7 [(0, .ref (ad 0)), (1, .int x1)] [] σ) : ∀ (σ : SS) (x1 : Int32) (x2 : Int32) (y1 : Int32) (y2 : Int32) (y3 : Int32), f_m_X12_findPhrases_78 g7 σ x1 x2 y1 y2 y3 = some (r, σ') → At p l e 2 46 s m args below meth c D (mw ad cy) (mas ad) cy (none) σ' 5 78 [(0, .ref (ad 0)), (1, .int x1), (2, .int x2)] [.int y3, .int y2, .int y1, .ref (ad 0)] σ := by
  intro σ x1 x2 y1 y2 y3 hf H locs ls hG hl
  unfold f_m_X12_findPhrases_78 at hf
  obtain ⟨r78, σ78, hcl, hf⟩ := bd_some hf
  refine cl_V (rest := []) (st1 := []) (As := [.int y1, .int y2, .int y3]) E hG (c_m_X12_put hcl) Wd_974 mi_X12_put ⟨Nat.le_of_ble_eq_true rfl, Nat.le_of_ble_eq_true rfl, Nat.zero_le _, Nat.zero_le _⟩ 13 0 rfl rfl rfl hl.1 rfl (Nat.le_of_ble_eq_true rfl) dX12_findPhrases_78 rfl (fun H locs hG => ?_)
  refine lv_iload_n E.1 E.2.1 dX12_findPhrases_81 rfl (lv_at hl 1 rfl) ?_
  refine lv_iload_n E.1 E.2.1 dX12_findPhrases_82 rfl (lv_at hl 2 rfl) ?_
  refine lv_iadd E.1 E.2.1 dX12_findPhrases_83 ?_
  refine lv_istore_n (lv' := [(1, .int (x1 + x2)), (0, .ref (ad 0)), (2, .int x2)]) E.1 E.2.1 dX12_findPhrases_84 rfl hl (by decide) rfl (fun ls hl => ?_)
  refine lv_goto (tgt := 7) E.1 E.2.1 dX12_findPhrases_85 (by decide) ?_
  exact hg7 _ _ hf _ _ _ hG (lv_sub hl [1, 0] rfl)

set_option maxHeartbeats 4000000 in
set_option maxRecDepth 100000 in
theorem k_m_X12_findPhrases_62 {p : Program} {l : Launch} {e : Env} {s : State} {m : MethodId} {args : Array Value} {below : List Frame} {meth : Method} {c : Code} {D : va_G} {ad : Nat → Nat} {cy : ClassId} {r : Unit} {σ' : SS} (E : CallFix p m c cX12_findPhrases 5 s args TT yX12_findPhrases.cls) (hr : meth.sig.returnType = none) (hlk : meth.locks = false) (g7 : SS → Int32 → Option (Unit × SS)) (hg7 : ∀ (σ : SS) (x1 : Int32), g7 σ x1 = some (r, σ') → At p l e 2 46 s m args below meth c D (mw ad cy) (mas ad) cy (none) σ' 5 7 [(0, .ref (ad 0)), (1, .int x1)] [] σ) : ∀ (σ : SS) (x1 : Int32) (x2 : Int32) (x3 : Int32) (x4 : Int32), f_m_X12_findPhrases_62 g7 σ x1 x2 x3 x4 = some (r, σ') → At p l e 2 46 s m args below meth c D (mw ad cy) (mas ad) cy (none) σ' 5 62 [(0, .ref (ad 0)), (1, .int x1), (2, .int x2), (3, .int x3), (4, .int x4)] [] σ := by
  intro σ x1 x2 x3 x4 hf H locs ls hG hl
  unfold f_m_X12_findPhrases_62 at hf
  refine lv_aload_n E.1 E.2.1 dX12_findPhrases_62 rfl (lv_at hl 0 rfl) ?_
  refine lv_iload_n E.1 E.2.1 dX12_findPhrases_63 rfl (lv_at hl 1 rfl) ?_
  refine lv_iload_n E.1 E.2.1 dX12_findPhrases_64 rfl (lv_at hl 2 rfl) ?_
  refine lv_iload E.1 E.2.1 dX12_findPhrases_65 (lv_at hl 4 rfl) ?_
  refine lv_bipush (v := (-2 : Int32)) E.1 E.2.1 dX12_findPhrases_67 (by decide) ?_
  refine lv_icmp_eq (tgt := 77) E.1 E.2.1 dX12_findPhrases_69 (by decide) (fun hc => ?_) (fun hc => ?_)
  · replace hf := (if_pos hc).symm.trans hf
    refine lv_iload_n E.1 E.2.1 dX12_findPhrases_77 rfl (lv_at hl 3 rfl) ?_
    exact k_m_X12_findPhrases_78 E hr hlk g7 hg7 _ _ _ _ _ _ hf _ _ _ hG (lv_sub hl [0, 1, 2] rfl)
  · replace hf := (if_neg hc).symm.trans hf
    refine lv_iload E.1 E.2.1 dX12_findPhrases_72 (lv_at hl 4 rfl) ?_
    refine lv_goto (tgt := 78) E.1 E.2.1 dX12_findPhrases_74 (by decide) ?_
    exact k_m_X12_findPhrases_78 E hr hlk g7 hg7 _ _ _ _ _ _ hf _ _ _ hG (lv_sub hl [0, 1, 2] rfl)

set_option maxHeartbeats 4000000 in
set_option maxRecDepth 100000 in
theorem k_m_X12_findPhrases_28 {p : Program} {l : Launch} {e : Env} {s : State} {m : MethodId} {args : Array Value} {below : List Frame} {meth : Method} {c : Code} {D : va_G} {ad : Nat → Nat} {cy : ClassId} {r : Unit} {σ' : SS} (E : CallFix p m c cX12_findPhrases 5 s args TT yX12_findPhrases.cls) (hr : meth.sig.returnType = none) (hlk : meth.locks = false) (g7 : SS → Int32 → Option (Unit × SS)) (hg7 : ∀ (σ : SS) (x1 : Int32), g7 σ x1 = some (r, σ') → At p l e 2 46 s m args below meth c D (mw ad cy) (mas ad) cy (none) σ' 5 7 [(0, .ref (ad 0)), (1, .int x1)] [] σ) (g28 : SS → Int32 → Int32 → Int32 → Int32 → Option (Unit × SS)) (hg28 : ∀ (σ : SS) (x1 : Int32) (x2 : Int32) (x3 : Int32) (x4 : Int32), g28 σ x1 x2 x3 x4 = some (r, σ') → At p l e 2 46 s m args below meth c D (mw ad cy) (mas ad) cy (none) σ' 5 28 [(0, .ref (ad 0)), (1, .int x1), (2, .int x2), (3, .int x3), (4, .int x4)] [] σ) : ∀ (σ : SS) (x1 : Int32) (x2 : Int32) (x3 : Int32) (x4 : Int32), f_m_X12_findPhrases_28 g7 g28 σ x1 x2 x3 x4 = some (r, σ') → At p l e 2 46 s m args below meth c D (mw ad cy) (mas ad) cy (none) σ' 5 28 [(0, .ref (ad 0)), (1, .int x1), (2, .int x2), (3, .int x3), (4, .int x4)] [] σ := by
  intro σ x1 x2 x3 x4 hf H locs ls hG hl
  unfold f_m_X12_findPhrases_28 at hf
  refine lv_iload E.1 E.2.1 dX12_findPhrases_28 (lv_at hl 4 rfl) ?_
  refine lv_bipush (v := (-2 : Int32)) E.1 E.2.1 dX12_findPhrases_30 (by decide) ?_
  refine lv_icmp_eq (tgt := 62) E.1 E.2.1 dX12_findPhrases_32 (by decide) (fun hc => ?_) (fun hc => ?_)
  · replace hf := (if_pos hc).symm.trans hf
    exact k_m_X12_findPhrases_62 E hr hlk g7 hg7 _ _ _ _ _ hf _ _ _ hG (lv_sub hl [0, 1, 2, 3, 4] rfl)
  · replace hf := (if_neg hc).symm.trans hf
    refine lv_iload_n E.1 E.2.1 dX12_findPhrases_35 rfl (lv_at hl 1 rfl) ?_
    refine lv_iload_n E.1 E.2.1 dX12_findPhrases_36 rfl (lv_at hl 2 rfl) ?_
    refine lv_iadd E.1 E.2.1 dX12_findPhrases_37 ?_
    refine lv_aload_n E.1 E.2.1 dX12_findPhrases_38 rfl (lv_at hl 0 rfl) ?_
    refine fg_m_X12_72_0 E hG dX12_findPhrases_39 ?_
    refine lv_icmp_ge (tgt := 62) E.1 E.2.1 dX12_findPhrases_42 (by decide) (fun hc => ?_) (fun hc => ?_)
    · replace hf := (if_pos hc).symm.trans hf
      exact k_m_X12_findPhrases_62 E hr hlk g7 hg7 _ _ _ _ _ hf _ _ _ hG (lv_sub hl [0, 1, 2, 3, 4] rfl)
    · replace hf := (if_neg hc).symm.trans hf
      refine lv_iload E.1 E.2.1 dX12_findPhrases_45 (lv_at hl 4 rfl) ?_
      refine lv_istore_n (lv' := [(3, .int x4), (0, .ref (ad 0)), (1, .int x1), (2, .int x2), (4, .int x4)]) E.1 E.2.1 dX12_findPhrases_47 rfl hl (by decide) rfl (fun ls hl => ?_)
      refine lv_iinc (v := (x2 + (1 : Int32))) (lv' := [(2, .int (x2 + (1 : Int32))), (3, .int x4), (0, .ref (ad 0)), (1, .int x1), (4, .int x4)]) E.1 E.2.1 dX12_findPhrases_48 hl (k := 3) rfl rfl (by decide) rfl (fun ls hl => ?_)
      refine lv_aload_n E.1 E.2.1 dX12_findPhrases_51 rfl (lv_at hl 2 rfl) ?_
      refine lv_iload_n E.1 E.2.1 dX12_findPhrases_52 rfl (lv_at hl 3 rfl) ?_
      refine lv_iload_n E.1 E.2.1 dX12_findPhrases_53 rfl (lv_at hl 0 rfl) ?_
      obtain ⟨r54, σ54, hcl, hf⟩ := bd_some hf
      refine cl_V (rest := []) (st1 := [.int r54]) (As := [.int x1, .int (x2 + (1 : Int32))]) E hG (c_m_X12_phraseOf hcl) Wd_982 mi_X12_phraseOf ⟨Nat.le_of_ble_eq_true rfl, Nat.le_of_ble_eq_true rfl, Nat.zero_le _, Nat.zero_le _⟩ 13 0 rfl rfl rfl hl.1 rfl (Nat.le_of_ble_eq_true rfl) dX12_findPhrases_54 rfl (fun H locs hG => ?_)
      refine lv_istore (lv' := [(4, .int r54), (2, .int (x2 + (1 : Int32))), (3, .int x4), (0, .ref (ad 0)), (1, .int x1)]) E.1 E.2.1 dX12_findPhrases_57 hl (by decide) rfl (fun ls hl => ?_)
      refine lv_goto (tgt := 28) E.1 E.2.1 dX12_findPhrases_59 (by decide) ?_
      exact hg28 _ _ _ _ _ hf _ _ _ hG (lv_sub hl [3, 4, 1, 2, 0] rfl)

set_option maxHeartbeats 4000000 in
set_option maxRecDepth 100000 in
theorem k_m_X12_findPhrases_7 {p : Program} {l : Launch} {e : Env} {s : State} {m : MethodId} {args : Array Value} {below : List Frame} {meth : Method} {c : Code} {D : va_G} {ad : Nat → Nat} {cy : ClassId} {r : Unit} {σ' : SS} (E : CallFix p m c cX12_findPhrases 5 s args TT yX12_findPhrases.cls) (hr : meth.sig.returnType = none) (hlk : meth.locks = false) (g7 : SS → Int32 → Option (Unit × SS)) (hg7 : ∀ (σ : SS) (x1 : Int32), g7 σ x1 = some (r, σ') → At p l e 2 46 s m args below meth c D (mw ad cy) (mas ad) cy (none) σ' 5 7 [(0, .ref (ad 0)), (1, .int x1)] [] σ) : ∀ (σ : SS) (x1 : Int32), f_m_X12_findPhrases_7 g7 σ x1 = some (r, σ') → At p l e 2 46 s m args below meth c D (mw ad cy) (mas ad) cy (none) σ' 5 7 [(0, .ref (ad 0)), (1, .int x1)] [] σ := by
  intro σ x1 hf H locs ls hG hl
  unfold f_m_X12_findPhrases_7 at hf
  refine lv_iload_n E.1 E.2.1 dX12_findPhrases_7 rfl (lv_at hl 1 rfl) ?_
  refine lv_aload_n E.1 E.2.1 dX12_findPhrases_8 rfl (lv_at hl 0 rfl) ?_
  refine fg_m_X12_72_0 E hG dX12_findPhrases_9 ?_
  refine lv_icmp_ge (tgt := 88) E.1 E.2.1 dX12_findPhrases_12 (by decide) (fun hc => ?_) (fun hc => ?_)
  · replace hf := (if_pos hc).symm.trans hf
    exact r_v E hr hlk hG hf dX12_findPhrases_88
  · replace hf := (if_neg hc).symm.trans hf
    refine lv_iconst (v := (1 : Int32)) E.1 E.2.1 dX12_findPhrases_15 (by decide) ?_
    refine lv_istore_n (lv' := [(2, .int (1 : Int32)), (0, .ref (ad 0)), (1, .int x1)]) E.1 E.2.1 dX12_findPhrases_16 rfl hl (by decide) rfl (fun ls hl => ?_)
    refine lv_bipush (v := (-2 : Int32)) E.1 E.2.1 dX12_findPhrases_17 (by decide) ?_
    refine lv_istore_n (lv' := [(3, .int (-2 : Int32)), (2, .int (1 : Int32)), (0, .ref (ad 0)), (1, .int x1)]) E.1 E.2.1 dX12_findPhrases_19 rfl hl (by decide) rfl (fun ls hl => ?_)
    refine lv_aload_n E.1 E.2.1 dX12_findPhrases_20 rfl (lv_at hl 2 rfl) ?_
    refine lv_iload_n E.1 E.2.1 dX12_findPhrases_21 rfl (lv_at hl 3 rfl) ?_
    refine lv_iload_n E.1 E.2.1 dX12_findPhrases_22 rfl (lv_at hl 1 rfl) ?_
    obtain ⟨r23, σ23, hcl, hf⟩ := bd_some hf
    refine cl_V (rest := []) (st1 := [.int r23]) (As := [.int x1, .int (1 : Int32)]) E hG (c_m_X12_phraseOf hcl) Wd_982 mi_X12_phraseOf ⟨Nat.le_of_ble_eq_true rfl, Nat.le_of_ble_eq_true rfl, Nat.zero_le _, Nat.zero_le _⟩ 13 0 rfl rfl rfl hl.1 rfl (Nat.le_of_ble_eq_true rfl) dX12_findPhrases_23 rfl (fun H locs hG => ?_)
    refine lv_istore (lv' := [(4, .int r23), (3, .int (-2 : Int32)), (2, .int (1 : Int32)), (0, .ref (ad 0)), (1, .int x1)]) E.1 E.2.1 dX12_findPhrases_26 hl (by decide) rfl (fun ls hl => ?_)
    exact L4_at (P := fun σ x1 x2 x3 x4 => At p l e 2 46 s m args below meth c D (mw ad cy) (mas ad) cy (none) σ' 5 28 [(0, .ref (ad 0)), (1, .int x1), (2, .int x2), (3, .int x3), (4, .int x4)] [] σ) (fun g hg => k_m_X12_findPhrases_28 E hr hlk g7 hg7 g hg) FUEL _ _ _ _ _ hf _ _ _ hG (lv_sub hl [3, 4, 2, 1, 0] rfl)

set_option maxHeartbeats 4000000 in
set_option maxRecDepth 100000 in
theorem c_m_X12_findPhrases {l : Launch} {D : va_G} {ad : Nat → Nat} {cy : ClassId} {σ : SS} {r : Unit} {σ' : SS} (hf : f_m_X12_findPhrases σ = some (r, σ')) : Ctr l D (mw ad cy) (mas ad) cy yX12_findPhrases cX12_findPhrases 5 none 2 46 [.ref (ad 0)] σ (none) σ' := by
  refine Ctr.of (mw_as ad cy) rfl (Nat.le_of_ble_eq_true rfl) (fun p e s m args below meth c ls E hr hlk hl hG => ?_)
  have hl : lv_has ls 5 [(0, .ref (ad 0))] := hl
  unfold f_m_X12_findPhrases at hf
  refine lv_aload_n E.1 E.2.1 dX12_findPhrases_0 rfl (lv_at hl 0 rfl) ?_
  refine lv_iconst (v := (0 : Int32)) E.1 E.2.1 dX12_findPhrases_1 (by decide) ?_
  refine fp_m_X12_164_0 E hG dX12_findPhrases_2 (fun H locs hG => ?_)
  refine lv_iconst (v := (0 : Int32)) E.1 E.2.1 dX12_findPhrases_5 (by decide) ?_
  refine lv_istore_n (lv' := [(1, .int (0 : Int32)), (0, .ref (ad 0))]) E.1 E.2.1 dX12_findPhrases_6 rfl hl (by decide) rfl (fun ls hl => ?_)
  exact L1_at (P := fun σ x1 => At p l e 2 46 s m args below meth c D (mw ad cy) (mas ad) cy (none) σ' 5 7 [(0, .ref (ad 0)), (1, .int x1)] [] σ) (fun g hg => k_m_X12_findPhrases_7 E hr hlk g hg) FUEL _ _ hf _ _ _ hG (lv_sub hl [1, 0] rfl)

set_option maxHeartbeats 4000000 in
set_option maxRecDepth 100000 in
theorem c_m_X12_findPieces {l : Launch} {D : va_G} {ad : Nat → Nat} {cy : ClassId} {σ : SS} {x1 : Int32} {r : Unit} {σ' : SS} (hf : f_m_X12_findPieces σ x1 = some (r, σ')) : Ctr l D (mw ad cy) (mas ad) cy yX12_findPieces cX12_findPieces 2 none 3 70 [.ref (ad 0), .int x1] σ (none) σ' := by
  refine Ctr.of (mw_as ad cy) rfl (Nat.le_of_ble_eq_true rfl) (fun p e s m args below meth c ls E hr hlk hl hG => ?_)
  have hl : lv_has ls 2 [(0, .ref (ad 0)), (1, .int x1)] := hl
  unfold f_m_X12_findPieces at hf
  refine lv_iload_n E.1 E.2.1 dX12_findPieces_0 rfl (lv_at hl 1 rfl) ?_
  refine lv_if_ne (tgt := 11) E.1 E.2.1 dX12_findPieces_1 (by decide) (fun hc => ?_) (fun hc => ?_)
  · replace hf := (if_neg hc).symm.trans hf
    refine lv_aload_n E.1 E.2.1 dX12_findPieces_11 rfl (lv_at hl 0 rfl) ?_
    obtain ⟨r12, σ12, hcl, hf⟩ := bd_some hf
    refine cl_V (rest := []) (st1 := []) (As := []) E hG (c_m_X12_findPhrases hcl) Wd_978 mi_X12_findPhrases ⟨Nat.le_of_ble_eq_true rfl, Nat.le_of_ble_eq_true rfl, Nat.zero_le _, Nat.zero_le _⟩ 13 0 rfl rfl rfl hl.1 rfl (Nat.le_of_ble_eq_true rfl) dX12_findPieces_12 rfl (fun H locs hG => ?_)
    exact r_v E hr hlk hG hf dX12_findPieces_15
  · replace hf := (if_pos hc).symm.trans hf
    refine lv_aload_n E.1 E.2.1 dX12_findPieces_4 rfl (lv_at hl 0 rfl) ?_
    obtain ⟨r5, σ5, hcl, hf⟩ := bd_some hf
    refine cl_V (rest := []) (st1 := []) (As := []) E hG (c_m_X12_findFactors hcl) Wd_966 mi_X12_findFactors ⟨Nat.le_of_ble_eq_true rfl, Nat.le_of_ble_eq_true rfl, Nat.zero_le _, Nat.zero_le _⟩ 13 0 rfl rfl rfl hl.1 rfl (Nat.le_of_ble_eq_true rfl) dX12_findPieces_5 rfl (fun H locs hG => ?_)
    refine lv_goto (tgt := 15) E.1 E.2.1 dX12_findPieces_8 (by decide) ?_
    exact r_v E hr hlk hG hf dX12_findPieces_15

set_option maxHeartbeats 4000000 in
set_option maxRecDepth 100000 in
theorem c_m_X12_pieces {l : Launch} {D : va_G} {ad : Nat → Nat} {cy : ClassId} {σ : SS} {x1 : Int32} {r : Int32} {σ' : SS} (hf : f_m_X12_pieces σ x1 = some (r, σ')) : Ctr l D (mw ad cy) (mas ad) cy yX12_pieces cX12_pieces 2 (some FieldType.int) 4 91 [.ref (ad 0), .int x1] σ (some (.int r)) σ' := by
  refine Ctr.of (mw_as ad cy) rfl (Nat.le_of_ble_eq_true rfl) (fun p e s m args below meth c ls E hr hlk hl hG => ?_)
  have hl : lv_has ls 2 [(0, .ref (ad 0)), (1, .int x1)] := hl
  unfold f_m_X12_pieces at hf
  refine lv_aload_n E.1 E.2.1 dX12_pieces_0 rfl (lv_at hl 0 rfl) ?_
  refine lv_iconst (v := (0 : Int32)) E.1 E.2.1 dX12_pieces_1 (by decide) ?_
  refine fp_m_X12_59_0 E hG dX12_pieces_2 (fun H locs hG => ?_)
  refine lv_iload_n E.1 E.2.1 dX12_pieces_5 rfl (lv_at hl 1 rfl) ?_
  obtain ⟨r6, σ6, hcl, hf⟩ := bd_some hf
  refine cl_S (rest := []) (st1 := [.int r6]) (As := [.int x1]) E hG (c_m_X12_isKind hcl) Wd_939 mi_X12_isKind ⟨Nat.le_of_ble_eq_true rfl, Nat.le_of_ble_eq_true rfl, Nat.zero_le _, Nat.zero_le _⟩ rfl hl.1 rfl (Nat.le_of_ble_eq_true rfl) dX12_pieces_6 rfl (fun H locs hG => ?_)
  refine lv_if_ne (tgt := 14) E.1 E.2.1 dX12_pieces_9 (by decide) (fun hc => ?_) (fun hc => ?_)
  · replace hf := (if_neg hc).symm.trans hf
    refine lv_aload_n E.1 E.2.1 dX12_pieces_14 rfl (lv_at hl 0 rfl) ?_
    refine lv_iload_n E.1 E.2.1 dX12_pieces_15 rfl (lv_at hl 1 rfl) ?_
    obtain ⟨r16, σ16, hcl, hf⟩ := bd_some hf
    refine cl_V (rest := []) (st1 := []) (As := [.int x1]) E hG (c_m_X12_findPieces hcl) Wd_962 mi_X12_findPieces ⟨Nat.le_of_ble_eq_true rfl, Nat.le_of_ble_eq_true rfl, Nat.zero_le _, Nat.zero_le _⟩ 13 0 rfl rfl rfl hl.1 rfl (Nat.le_of_ble_eq_true rfl) dX12_pieces_16 rfl (fun H locs hG => ?_)
    refine lv_aload_n E.1 E.2.1 dX12_pieces_19 rfl (lv_at hl 0 rfl) ?_
    refine fg_m_X12_164_0 E hG dX12_pieces_20 ?_
    exact r_i E hr hlk hG hf dX12_pieces_23
  · replace hf := (if_pos hc).symm.trans hf
    refine lv_iconst (v := (-1 : Int32)) E.1 E.2.1 dX12_pieces_12 (by decide) ?_
    exact r_i E hr hlk hG hf dX12_pieces_13

set_option maxHeartbeats 4000000 in
set_option maxRecDepth 100000 in
theorem c_m_X12_piece {l : Launch} {D : va_G} {ad : Nat → Nat} {cy : ClassId} {σ : SS} {x1 : Int32} {x2 : Int32} {x3 : Int32} {r : Int32} {σ' : SS} (hf : f_m_X12_piece σ x1 x2 x3 = some (r, σ')) : Ctr l D (mw ad cy) (mas ad) cy yX12_piece cX12_piece 4 (some FieldType.int) 4 91 [.ref (ad 0), .int x1, .int x2, .int x3] σ (some (.int r)) σ' := by
  refine Ctr.of (mw_as ad cy) rfl (Nat.le_of_ble_eq_true rfl) (fun p e s m args below meth c ls E hr hlk hl hG => ?_)
  have hl : lv_has ls 4 [(0, .ref (ad 0)), (1, .int x1), (2, .int x2), (3, .int x3)] := hl
  unfold f_m_X12_piece at hf
  refine lv_aload_n E.1 E.2.1 dX12_piece_0 rfl (lv_at hl 0 rfl) ?_
  refine lv_iconst (v := (0 : Int32)) E.1 E.2.1 dX12_piece_1 (by decide) ?_
  refine fp_m_X12_59_0 E hG dX12_piece_2 (fun H locs hG => ?_)
  refine lv_iload_n E.1 E.2.1 dX12_piece_5 rfl (lv_at hl 1 rfl) ?_
  obtain ⟨r6, σ6, hcl, hf⟩ := bd_some hf
  refine cl_S (rest := []) (st1 := [.int r6]) (As := [.int x1]) E hG (c_m_X12_isKind hcl) Wd_939 mi_X12_isKind ⟨Nat.le_of_ble_eq_true rfl, Nat.le_of_ble_eq_true rfl, Nat.zero_le _, Nat.zero_le _⟩ rfl hl.1 rfl (Nat.le_of_ble_eq_true rfl) dX12_piece_6 rfl (fun H locs hG => ?_)
  refine lv_if_eq (tgt := 24) E.1 E.2.1 dX12_piece_9 (by decide) (fun hc => ?_) (fun hc => ?_)
  · replace hf := (if_pos hc).symm.trans hf
    refine lv_iconst (v := (-1 : Int32)) E.1 E.2.1 dX12_piece_24 (by decide) ?_
    exact r_i E hr hlk hG hf dX12_piece_25
  · replace hf := (if_neg hc).symm.trans hf
    refine lv_iload_n E.1 E.2.1 dX12_piece_12 rfl (lv_at hl 3 rfl) ?_
    refine lv_i2l E.1 E.2.1 dX12_piece_13 rfl ?_
    refine lv_lconst (v := (0 : Int64)) E.1 E.2.1 dX12_piece_14 (by decide) ?_
    refine lv_ldc2 E.1 E.2.1 E.2.2.2.1 (E.2.2.2.2 _ Wd_883) dX12_piece_15 ?_
    obtain ⟨r18, σ18, hcl, hf⟩ := bd_some hf
    refine cl_S (rest := []) (st1 := [.int r18]) (As := [.long (Int32.toInt64 x3), .long (0 : Int64), .long (2 : Int64)]) E hG (c_m_X12_in hcl) Wd_837 mi_X12_in ⟨Nat.le_of_ble_eq_true rfl, Nat.le_of_ble_eq_true rfl, Nat.zero_le _, Nat.zero_le _⟩ rfl hl.1 rfl (Nat.le_of_ble_eq_true rfl) dX12_piece_18 rfl (fun H locs hG => ?_)
    refine lv_if_ne (tgt := 26) E.1 E.2.1 dX12_piece_21 (by decide) (fun hc => ?_) (fun hc => ?_)
    · replace hf := (if_neg hc).symm.trans hf
      refine lv_aload_n E.1 E.2.1 dX12_piece_26 rfl (lv_at hl 0 rfl) ?_
      refine lv_iload_n E.1 E.2.1 dX12_piece_27 rfl (lv_at hl 1 rfl) ?_
      obtain ⟨r28, σ28, hcl, hf⟩ := bd_some hf
      refine cl_V (rest := []) (st1 := []) (As := [.int x1]) E hG (c_m_X12_findPieces hcl) Wd_962 mi_X12_findPieces ⟨Nat.le_of_ble_eq_true rfl, Nat.le_of_ble_eq_true rfl, Nat.zero_le _, Nat.zero_le _⟩ 13 0 rfl rfl rfl hl.1 rfl (Nat.le_of_ble_eq_true rfl) dX12_piece_28 rfl (fun H locs hG => ?_)
      refine lv_iload_n E.1 E.2.1 dX12_piece_31 rfl (lv_at hl 2 rfl) ?_
      refine lv_i2l E.1 E.2.1 dX12_piece_32 rfl ?_
      refine lv_lconst (v := (0 : Int64)) E.1 E.2.1 dX12_piece_33 (by decide) ?_
      refine lv_aload_n E.1 E.2.1 dX12_piece_34 rfl (lv_at hl 0 rfl) ?_
      refine fg_m_X12_164_0 E hG dX12_piece_35 ?_
      refine lv_iconst (v := (1 : Int32)) E.1 E.2.1 dX12_piece_38 (by decide) ?_
      refine lv_isub E.1 E.2.1 dX12_piece_39 ?_
      refine lv_i2l E.1 E.2.1 dX12_piece_40 rfl ?_
      obtain ⟨r41, σ41, hcl, hf⟩ := bd_some hf
      refine cl_S (rest := []) (st1 := [.int r41]) (As := [.long (Int32.toInt64 x2), .long (0 : Int64), .long (Int32.toInt64 ((σ28.1 6) - (1 : Int32)))]) E hG (c_m_X12_in hcl) Wd_837 mi_X12_in ⟨Nat.le_of_ble_eq_true rfl, Nat.le_of_ble_eq_true rfl, Nat.zero_le _, Nat.zero_le _⟩ rfl hl.1 rfl (Nat.le_of_ble_eq_true rfl) dX12_piece_41 rfl (fun H locs hG => ?_)
      refine lv_if_ne (tgt := 49) E.1 E.2.1 dX12_piece_44 (by decide) (fun hc => ?_) (fun hc => ?_)
      · replace hf := (if_neg hc).symm.trans hf
        refine lv_iload_n E.1 E.2.1 dX12_piece_49 rfl (lv_at hl 3 rfl) ?_
        refine lv_if_ne (tgt := 62) E.1 E.2.1 dX12_piece_50 (by decide) (fun hc => ?_) (fun hc => ?_)
        · replace hf := (if_neg hc).symm.trans hf
          refine lv_iload_n E.1 E.2.1 dX12_piece_62 rfl (lv_at hl 3 rfl) ?_
          refine lv_iconst (v := (1 : Int32)) E.1 E.2.1 dX12_piece_63 (by decide) ?_
          refine lv_icmp_ne (tgt := 76) E.1 E.2.1 dX12_piece_64 (by decide) (fun hc => ?_) (fun hc => ?_)
          · replace hf := (if_neg hc).symm.trans hf
            refine lv_aload_n E.1 E.2.1 dX12_piece_76 rfl (lv_at hl 0 rfl) ?_
            refine fg_m_X12_40_0 E hG dX12_piece_77 ?_
            refine lv_iload_n E.1 E.2.1 dX12_piece_80 rfl (lv_at hl 2 rfl) ?_
            obtain ⟨hin, hf⟩ := gd_some hf
            refine al_m_11 E hG hin dX12_piece_81 ?_
            exact r_i E hr hlk hG hf dX12_piece_82
          · replace hf := (if_pos hc).symm.trans hf
            refine lv_aload_n E.1 E.2.1 dX12_piece_67 rfl (lv_at hl 0 rfl) ?_
            refine fg_m_X12_37_0 E hG dX12_piece_68 ?_
            refine lv_iload_n E.1 E.2.1 dX12_piece_71 rfl (lv_at hl 2 rfl) ?_
            obtain ⟨hin, hf⟩ := gd_some hf
            refine al_m_10 E hG hin dX12_piece_72 ?_
            refine lv_goto (tgt := 82) E.1 E.2.1 dX12_piece_73 (by decide) ?_
            exact r_i E hr hlk hG hf dX12_piece_82
        · replace hf := (if_pos hc).symm.trans hf
          refine lv_aload_n E.1 E.2.1 dX12_piece_53 rfl (lv_at hl 0 rfl) ?_
          refine fg_m_X12_34_0 E hG dX12_piece_54 ?_
          refine lv_iload_n E.1 E.2.1 dX12_piece_57 rfl (lv_at hl 2 rfl) ?_
          obtain ⟨hin, hf⟩ := gd_some hf
          refine al_m_9 E hG hin dX12_piece_58 ?_
          refine lv_goto (tgt := 82) E.1 E.2.1 dX12_piece_59 (by decide) ?_
          exact r_i E hr hlk hG hf dX12_piece_82
      · replace hf := (if_pos hc).symm.trans hf
        refine lv_iconst (v := (-1 : Int32)) E.1 E.2.1 dX12_piece_47 (by decide) ?_
        exact r_i E hr hlk hG hf dX12_piece_48
    · replace hf := (if_pos hc).symm.trans hf
      refine lv_iconst (v := (-1 : Int32)) E.1 E.2.1 dX12_piece_24 (by decide) ?_
      exact r_i E hr hlk hG hf dX12_piece_25

set_option maxHeartbeats 4000000 in
set_option maxRecDepth 100000 in
theorem k_m_X12_isMade_19 {p : Program} {l : Launch} {e : Env} {s : State} {m : MethodId} {args : Array Value} {below : List Frame} {meth : Method} {c : Code} {D : va_G} {ad : Nat → Nat} {cy : ClassId} {r : Int32} {σ' : SS} (E : CallFix p m c cX12_isMade 3 s args TT yX12_isMade.cls) (hr : meth.sig.returnType = (some FieldType.boolean)) (hlk : meth.locks = false) (g19 : SS → Int32 → Int32 → Option (Int32 × SS)) (hg19 : ∀ (σ : SS) (x1 : Int32) (x2 : Int32), g19 σ x1 x2 = some (r, σ') → At p l e 0 0 s m args below meth c D (mw ad cy) (mas ad) cy (some (.int r)) σ' 3 19 [(0, .ref (ad 0)), (1, .int x1), (2, .int x2)] [] σ) : ∀ (σ : SS) (x1 : Int32) (x2 : Int32), f_m_X12_isMade_19 g19 σ x1 x2 = some (r, σ') → At p l e 0 0 s m args below meth c D (mw ad cy) (mas ad) cy (some (.int r)) σ' 3 19 [(0, .ref (ad 0)), (1, .int x1), (2, .int x2)] [] σ := by
  intro σ x1 x2 hf H locs ls hG hl
  unfold f_m_X12_isMade_19 at hf
  refine lv_iload_n E.1 E.2.1 dX12_isMade_19 rfl (lv_at hl 2 rfl) ?_
  refine lv_aload_n E.1 E.2.1 dX12_isMade_20 rfl (lv_at hl 0 rfl) ?_
  refine fg_m_X12_72_0 E hG dX12_isMade_21 ?_
  refine lv_icmp_ge (tgt := 58) E.1 E.2.1 dX12_isMade_24 (by decide) (fun hc => ?_) (fun hc => ?_)
  · replace hf := (if_pos hc).symm.trans hf
    refine lv_iload_n E.1 E.2.1 dX12_isMade_58 rfl (lv_at hl 1 rfl) ?_
    obtain ⟨hz, hf⟩ := gb_some hf
    exact r_z E hr hlk hG hf hz dX12_isMade_59
  · replace hf := (if_neg hc).symm.trans hf
    refine lv_iload_n E.1 E.2.1 dX12_isMade_27 rfl (lv_at hl 1 rfl) ?_
    refine lv_if_eq (tgt := 58) E.1 E.2.1 dX12_isMade_28 (by decide) (fun hc => ?_) (fun hc => ?_)
    · replace hf := (if_pos hc).symm.trans hf
      refine lv_iload_n E.1 E.2.1 dX12_isMade_58 rfl (lv_at hl 1 rfl) ?_
      obtain ⟨hz, hf⟩ := gb_some hf
      exact r_z E hr hlk hG hf hz dX12_isMade_59
    · replace hf := (if_neg hc).symm.trans hf
      refine lv_aload_n E.1 E.2.1 dX12_isMade_31 rfl (lv_at hl 0 rfl) ?_
      refine fg_m_X12_56_0 E hG dX12_isMade_32 ?_
      refine lv_iload_n E.1 E.2.1 dX12_isMade_35 rfl (lv_at hl 2 rfl) ?_
      obtain ⟨hin, hf⟩ := gd_some hf
      refine al_m_15 E hG hin dX12_isMade_36 ?_
      refine lv_aload_n E.1 E.2.1 dX12_isMade_37 rfl (lv_at hl 0 rfl) ?_
      refine fg_m_X12_7_0 E hG dX12_isMade_38 ?_
      refine lv_iload_n E.1 E.2.1 dX12_isMade_41 rfl (lv_at hl 2 rfl) ?_
      obtain ⟨hin, hf⟩ := gd_some hf
      refine al_m_1 E hG hin dX12_isMade_42 ?_
      refine lv_icmp_ne (tgt := 50) E.1 E.2.1 dX12_isMade_43 (by decide) (fun hc => ?_) (fun hc => ?_)
      · replace hf := (if_neg hc).symm.trans hf
        refine lv_iconst (v := (0 : Int32)) E.1 E.2.1 dX12_isMade_50 (by decide) ?_
        refine lv_istore_n (lv' := [(1, .int (0 : Int32)), (0, .ref (ad 0)), (2, .int x2)]) E.1 E.2.1 dX12_isMade_51 rfl hl (by decide) rfl (fun ls hl => ?_)
        refine lv_iinc (v := (x2 + (1 : Int32))) (lv' := [(2, .int (x2 + (1 : Int32))), (1, .int (0 : Int32)), (0, .ref (ad 0))]) E.1 E.2.1 dX12_isMade_52 hl (k := 2) rfl rfl (by decide) rfl (fun ls hl => ?_)
        refine lv_goto (tgt := 19) E.1 E.2.1 dX12_isMade_55 (by decide) ?_
        exact hg19 _ _ _ hf _ _ _ hG (lv_sub hl [2, 1, 0] rfl)
      · replace hf := (if_pos hc).symm.trans hf
        refine lv_iconst (v := (1 : Int32)) E.1 E.2.1 dX12_isMade_46 (by decide) ?_
        refine lv_goto (tgt := 51) E.1 E.2.1 dX12_isMade_47 (by decide) ?_
        refine lv_istore_n (lv' := [(1, .int (1 : Int32)), (0, .ref (ad 0)), (2, .int x2)]) E.1 E.2.1 dX12_isMade_51 rfl hl (by decide) rfl (fun ls hl => ?_)
        refine lv_iinc (v := (x2 + (1 : Int32))) (lv' := [(2, .int (x2 + (1 : Int32))), (1, .int (1 : Int32)), (0, .ref (ad 0))]) E.1 E.2.1 dX12_isMade_52 hl (k := 2) rfl rfl (by decide) rfl (fun ls hl => ?_)
        refine lv_goto (tgt := 19) E.1 E.2.1 dX12_isMade_55 (by decide) ?_
        exact hg19 _ _ _ hf _ _ _ hG (lv_sub hl [2, 1, 0] rfl)

set_option maxHeartbeats 4000000 in
set_option maxRecDepth 100000 in
theorem c_m_X12_isMade {l : Launch} {D : va_G} {ad : Nat → Nat} {cy : ClassId} {σ : SS} {r : Int32} {σ' : SS} (hf : f_m_X12_isMade σ = some (r, σ')) : Ctr l D (mw ad cy) (mas ad) cy yX12_isMade cX12_isMade 3 (some FieldType.boolean) 0 0 [.ref (ad 0)] σ (some (.int r)) σ' := by
  refine Ctr.of (mw_as ad cy) rfl (Nat.le_of_ble_eq_true rfl) (fun p e s m args below meth c ls E hr hlk hl hG => ?_)
  have hl : lv_has ls 3 [(0, .ref (ad 0))] := hl
  unfold f_m_X12_isMade at hf
  refine lv_aload_n E.1 E.2.1 dX12_isMade_0 rfl (lv_at hl 0 rfl) ?_
  refine fg_m_X12_52_0 E hG dX12_isMade_1 ?_
  refine lv_aload_n E.1 E.2.1 dX12_isMade_4 rfl (lv_at hl 0 rfl) ?_
  refine fg_m_X12_72_0 E hG dX12_isMade_5 ?_
  refine lv_icmp_ne (tgt := 15) E.1 E.2.1 dX12_isMade_8 (by decide) (fun hc => ?_) (fun hc => ?_)
  · replace hf := (if_neg hc).symm.trans hf
    refine lv_iconst (v := (0 : Int32)) E.1 E.2.1 dX12_isMade_15 (by decide) ?_
    refine lv_istore_n (lv' := [(1, .int (0 : Int32)), (0, .ref (ad 0))]) E.1 E.2.1 dX12_isMade_16 rfl hl (by decide) rfl (fun ls hl => ?_)
    refine lv_iconst (v := (0 : Int32)) E.1 E.2.1 dX12_isMade_17 (by decide) ?_
    refine lv_istore_n (lv' := [(2, .int (0 : Int32)), (1, .int (0 : Int32)), (0, .ref (ad 0))]) E.1 E.2.1 dX12_isMade_18 rfl hl (by decide) rfl (fun ls hl => ?_)
    exact L2_at (P := fun σ x1 x2 => At p l e 0 0 s m args below meth c D (mw ad cy) (mas ad) cy (some (.int r)) σ' 3 19 [(0, .ref (ad 0)), (1, .int x1), (2, .int x2)] [] σ) (fun g hg => k_m_X12_isMade_19 E hr hlk g hg) FUEL _ _ _ hf _ _ _ hG (lv_sub hl [2, 1, 0] rfl)
  · replace hf := (if_pos hc).symm.trans hf
    refine lv_iconst (v := (1 : Int32)) E.1 E.2.1 dX12_isMade_11 (by decide) ?_
    refine lv_goto (tgt := 16) E.1 E.2.1 dX12_isMade_12 (by decide) ?_
    refine lv_istore_n (lv' := [(1, .int (1 : Int32)), (0, .ref (ad 0))]) E.1 E.2.1 dX12_isMade_16 rfl hl (by decide) rfl (fun ls hl => ?_)
    refine lv_iconst (v := (0 : Int32)) E.1 E.2.1 dX12_isMade_17 (by decide) ?_
    refine lv_istore_n (lv' := [(2, .int (0 : Int32)), (1, .int (1 : Int32)), (0, .ref (ad 0))]) E.1 E.2.1 dX12_isMade_18 rfl hl (by decide) rfl (fun ls hl => ?_)
    exact L2_at (P := fun σ x1 x2 => At p l e 0 0 s m args below meth c D (mw ad cy) (mas ad) cy (some (.int r)) σ' 3 19 [(0, .ref (ad 0)), (1, .int x1), (2, .int x2)] [] σ) (fun g hg => k_m_X12_isMade_19 E hr hlk g hg) FUEL _ _ _ hf _ _ _ hG (lv_sub hl [2, 1, 0] rfl)
