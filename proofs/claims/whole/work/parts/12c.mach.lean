set_option maxHeartbeats 4000000 in
set_option maxRecDepth 100000 in
theorem c_c_X11_pieces {l : Launch} {D : va_G} {ad : Nat → Nat} {cy : ClassId} {σ : SS} {x1 : Int32} {r : Int32} {σ' : SS} (hf : f_c_X11_pieces σ x1 = some (r, σ')) : Ctr l D (cw ad cy) (cas ad) cy yX11_pieces cX11_pieces 2 (some FieldType.int) 5 122 [.ref (ad 0), .int x1] σ (some (.int r)) σ' := by
  refine Ctr.of (cw_as ad cy) rfl (Nat.le_of_ble_eq_true rfl) (fun p e s m args below meth c ls E hr hlk hl hG => ?_)
  have hl : lv_has ls 2 [(0, .ref (ad 0)), (1, .int x1)] := hl
  unfold f_c_X11_pieces at hf
  refine lv_iload_n E.1 E.2.1 dX11_pieces_0 rfl (lv_at hl 1 rfl) ?_
  refine lv_iconst (v := (0 : Int32)) E.1 E.2.1 dX11_pieces_1 (by decide) ?_
  refine lv_iconst (v := (1 : Int32)) E.1 E.2.1 dX11_pieces_2 (by decide) ?_
  obtain ⟨r3, σ3, hcl, hf⟩ := bd_some hf
  refine cl_S (rest := []) (st1 := [.int r3]) (As := [.int x1, .int (0 : Int32), .int (1 : Int32)]) E hG (c_c_X11_within hcl) Wd_365 mi_X11_within ⟨Nat.le_of_ble_eq_true rfl, Nat.le_of_ble_eq_true rfl, Nat.zero_le _, Nat.zero_le _⟩ rfl hl.1 rfl (Nat.le_of_ble_eq_true rfl) dX11_pieces_3 rfl (fun H locs hG => ?_)
  refine lv_if_ne (tgt := 11) E.1 E.2.1 dX11_pieces_6 (by decide) (fun hc => ?_) (fun hc => ?_)
  · replace hf := (if_neg hc).symm.trans hf
    refine lv_aload_n E.1 E.2.1 dX11_pieces_11 rfl (lv_at hl 0 rfl) ?_
    refine lv_iload_n E.1 E.2.1 dX11_pieces_12 rfl (lv_at hl 1 rfl) ?_
    obtain ⟨r13, σ13, hcl, hf⟩ := bd_some hf
    have hq := or2_some hf
    clear hf
    obtain ⟨rfl, hf⟩ | ⟨rfl, hf⟩ := hq
    · refine cl_V (rest := []) (st1 := [.ref (ad 20)]) (As := [.int x1]) E hG (c_c_X11_cutPieces hcl) Wd_542 mi_X11_cutPieces ⟨Nat.le_of_ble_eq_true rfl, Nat.le_of_ble_eq_true rfl, Nat.zero_le _, Nat.zero_le _⟩ 12 0 rfl rfl rfl hl.1 rfl (Nat.le_of_ble_eq_true rfl) dX11_pieces_13 rfl (fun H locs hG => ?_)
      refine fg_c_X11_173_20 E hG dX11_pieces_16 ?_
      exact r_i E hr hlk hG hf dX11_pieces_19
    · refine cl_V (rest := []) (st1 := [.ref (ad 24)]) (As := [.int x1]) E hG (c_c_X11_cutPieces hcl) Wd_542 mi_X11_cutPieces ⟨Nat.le_of_ble_eq_true rfl, Nat.le_of_ble_eq_true rfl, Nat.zero_le _, Nat.zero_le _⟩ 12 0 rfl rfl rfl hl.1 rfl (Nat.le_of_ble_eq_true rfl) dX11_pieces_13 rfl (fun H locs hG => ?_)
      refine fg_c_X11_173_24 E hG dX11_pieces_16 ?_
      exact r_i E hr hlk hG hf dX11_pieces_19
  · replace hf := (if_pos hc).symm.trans hf
    refine lv_iconst (v := (-1 : Int32)) E.1 E.2.1 dX11_pieces_9 (by decide) ?_
    exact r_i E hr hlk hG hf dX11_pieces_10

set_option maxHeartbeats 4000000 in
set_option maxRecDepth 100000 in
theorem c_c_X11_piece {l : Launch} {D : va_G} {ad : Nat → Nat} {cy : ClassId} {σ : SS} {x1 : Int32} {x2 : Int32} {x3 : Int32} {r : Int32} {σ' : SS} (hf : f_c_X11_piece σ x1 x2 x3 = some (r, σ')) : Ctr l D (cw ad cy) (cas ad) cy yX11_piece cX11_piece 5 (some FieldType.int) 5 122 [.ref (ad 0), .int x1, .int x2, .int x3] σ (some (.int r)) σ' := by
  refine Ctr.of (cw_as ad cy) rfl (Nat.le_of_ble_eq_true rfl) (fun p e s m args below meth c ls E hr hlk hl hG => ?_)
  have hl : lv_has ls 5 [(0, .ref (ad 0)), (1, .int x1), (2, .int x2), (3, .int x3)] := hl
  unfold f_c_X11_piece at hf
  refine lv_iload_n E.1 E.2.1 dX11_piece_0 rfl (lv_at hl 1 rfl) ?_
  refine lv_iconst (v := (0 : Int32)) E.1 E.2.1 dX11_piece_1 (by decide) ?_
  refine lv_iconst (v := (1 : Int32)) E.1 E.2.1 dX11_piece_2 (by decide) ?_
  obtain ⟨r3, σ3, hcl, hf⟩ := bd_some hf
  refine cl_S (rest := []) (st1 := [.int r3]) (As := [.int x1, .int (0 : Int32), .int (1 : Int32)]) E hG (c_c_X11_within hcl) Wd_365 mi_X11_within ⟨Nat.le_of_ble_eq_true rfl, Nat.le_of_ble_eq_true rfl, Nat.zero_le _, Nat.zero_le _⟩ rfl hl.1 rfl (Nat.le_of_ble_eq_true rfl) dX11_piece_3 rfl (fun H locs hG => ?_)
  refine lv_if_eq (tgt := 18) E.1 E.2.1 dX11_piece_6 (by decide) (fun hc => ?_) (fun hc => ?_)
  · replace hf := (if_pos hc).symm.trans hf
    refine lv_iconst (v := (-1 : Int32)) E.1 E.2.1 dX11_piece_18 (by decide) ?_
    exact r_i E hr hlk hG hf dX11_piece_19
  · replace hf := (if_neg hc).symm.trans hf
    refine lv_iload_n E.1 E.2.1 dX11_piece_9 rfl (lv_at hl 3 rfl) ?_
    refine lv_iconst (v := (0 : Int32)) E.1 E.2.1 dX11_piece_10 (by decide) ?_
    refine lv_iconst (v := (2 : Int32)) E.1 E.2.1 dX11_piece_11 (by decide) ?_
    obtain ⟨r12, σ12, hcl, hf⟩ := bd_some hf
    refine cl_S (rest := []) (st1 := [.int r12]) (As := [.int x3, .int (0 : Int32), .int (2 : Int32)]) E hG (c_c_X11_within hcl) Wd_365 mi_X11_within ⟨Nat.le_of_ble_eq_true rfl, Nat.le_of_ble_eq_true rfl, Nat.zero_le _, Nat.zero_le _⟩ rfl hl.1 rfl (Nat.le_of_ble_eq_true rfl) dX11_piece_12 rfl (fun H locs hG => ?_)
    refine lv_if_ne (tgt := 20) E.1 E.2.1 dX11_piece_15 (by decide) (fun hc => ?_) (fun hc => ?_)
    · replace hf := (if_neg hc).symm.trans hf
      refine lv_aload_n E.1 E.2.1 dX11_piece_20 rfl (lv_at hl 0 rfl) ?_
      refine lv_iload_n E.1 E.2.1 dX11_piece_21 rfl (lv_at hl 1 rfl) ?_
      obtain ⟨r22, σ22, hcl, hf⟩ := bd_some hf
      have hq := or2_some hf
      clear hf
      obtain ⟨rfl, hf⟩ | ⟨rfl, hf⟩ := hq
      · refine cl_V (rest := []) (st1 := [.ref (ad 20)]) (As := [.int x1]) E hG (c_c_X11_cutPieces hcl) Wd_542 mi_X11_cutPieces ⟨Nat.le_of_ble_eq_true rfl, Nat.le_of_ble_eq_true rfl, Nat.zero_le _, Nat.zero_le _⟩ 12 0 rfl rfl rfl hl.1 rfl (Nat.le_of_ble_eq_true rfl) dX11_piece_22 rfl (fun H locs hG => ?_)
        refine lv_astore (lv' := [(4, .ref (ad 20)), (0, .ref (ad 0)), (1, .int x1), (2, .int x2), (3, .int x3)]) E.1 E.2.1 dX11_piece_25 hl (by decide) rfl (fun ls hl => ?_)
        refine lv_iload_n E.1 E.2.1 dX11_piece_27 rfl (lv_at hl 3 rfl) ?_
        refine lv_iconst (v := (0 : Int32)) E.1 E.2.1 dX11_piece_28 (by decide) ?_
        refine lv_aload E.1 E.2.1 dX11_piece_29 (lv_at hl 0 rfl) ?_
        refine fg_c_X11_173_20 E hG dX11_piece_31 ?_
        refine lv_iconst (v := (1 : Int32)) E.1 E.2.1 dX11_piece_34 (by decide) ?_
        refine lv_isub E.1 E.2.1 dX11_piece_35 ?_
        obtain ⟨r36, σ36, hcl, hf⟩ := bd_some hf
        refine cl_S (rest := []) (st1 := [.int r36]) (As := [.int x2, .int (0 : Int32), .int ((σ22.1 9) - (1 : Int32))]) E hG (c_c_X11_within hcl) Wd_365 mi_X11_within ⟨Nat.le_of_ble_eq_true rfl, Nat.le_of_ble_eq_true rfl, Nat.zero_le _, Nat.zero_le _⟩ rfl hl.1 rfl (Nat.le_of_ble_eq_true rfl) dX11_piece_36 rfl (fun H locs hG => ?_)
        refine lv_if_ne (tgt := 44) E.1 E.2.1 dX11_piece_39 (by decide) (fun hc => ?_) (fun hc => ?_)
        · replace hf := (if_neg hc).symm.trans hf
          refine lv_iload_n E.1 E.2.1 dX11_piece_44 rfl (lv_at hl 4 rfl) ?_
          refine lv_if_ne (tgt := 56) E.1 E.2.1 dX11_piece_45 (by decide) (fun hc => ?_) (fun hc => ?_)
          · replace hf := (if_neg hc).symm.trans hf
            refine lv_iload_n E.1 E.2.1 dX11_piece_56 rfl (lv_at hl 4 rfl) ?_
            refine lv_iconst (v := (1 : Int32)) E.1 E.2.1 dX11_piece_57 (by decide) ?_
            refine lv_icmp_ne (tgt := 71) E.1 E.2.1 dX11_piece_58 (by decide) (fun hc => ?_) (fun hc => ?_)
            · replace hf := (if_neg hc).symm.trans hf
              refine lv_aload E.1 E.2.1 dX11_piece_71 (lv_at hl 0 rfl) ?_
              refine fg_c_X11_184_20 E hG dX11_piece_73 ?_
              refine lv_iload_n E.1 E.2.1 dX11_piece_76 rfl (lv_at hl 3 rfl) ?_
              obtain ⟨hin, hf⟩ := gd_some hf
              refine al_c_23 E hG hin dX11_piece_77 ?_
              exact r_i E hr hlk hG hf dX11_piece_78
            · replace hf := (if_pos hc).symm.trans hf
              refine lv_aload E.1 E.2.1 dX11_piece_61 (lv_at hl 0 rfl) ?_
              refine fg_c_X11_181_20 E hG dX11_piece_63 ?_
              refine lv_iload_n E.1 E.2.1 dX11_piece_66 rfl (lv_at hl 3 rfl) ?_
              obtain ⟨hin, hf⟩ := gd_some hf
              refine al_c_22 E hG hin dX11_piece_67 ?_
              refine lv_goto (tgt := 78) E.1 E.2.1 dX11_piece_68 (by decide) ?_
              exact r_i E hr hlk hG hf dX11_piece_78
          · replace hf := (if_pos hc).symm.trans hf
            refine lv_aload E.1 E.2.1 dX11_piece_48 (lv_at hl 0 rfl) ?_
            refine fg_c_X11_178_20 E hG dX11_piece_50 ?_
            refine lv_iload_n E.1 E.2.1 dX11_piece_53 rfl (lv_at hl 3 rfl) ?_
            obtain ⟨hin, hf⟩ := gd_some hf
            refine al_c_21 E hG hin dX11_piece_54 ?_
            exact r_i E hr hlk hG hf dX11_piece_55
        · replace hf := (if_pos hc).symm.trans hf
          refine lv_iconst (v := (-1 : Int32)) E.1 E.2.1 dX11_piece_42 (by decide) ?_
          exact r_i E hr hlk hG hf dX11_piece_43
      · refine cl_V (rest := []) (st1 := [.ref (ad 24)]) (As := [.int x1]) E hG (c_c_X11_cutPieces hcl) Wd_542 mi_X11_cutPieces ⟨Nat.le_of_ble_eq_true rfl, Nat.le_of_ble_eq_true rfl, Nat.zero_le _, Nat.zero_le _⟩ 12 0 rfl rfl rfl hl.1 rfl (Nat.le_of_ble_eq_true rfl) dX11_piece_22 rfl (fun H locs hG => ?_)
        refine lv_astore (lv' := [(4, .ref (ad 24)), (0, .ref (ad 0)), (1, .int x1), (2, .int x2), (3, .int x3)]) E.1 E.2.1 dX11_piece_25 hl (by decide) rfl (fun ls hl => ?_)
        refine lv_iload_n E.1 E.2.1 dX11_piece_27 rfl (lv_at hl 3 rfl) ?_
        refine lv_iconst (v := (0 : Int32)) E.1 E.2.1 dX11_piece_28 (by decide) ?_
        refine lv_aload E.1 E.2.1 dX11_piece_29 (lv_at hl 0 rfl) ?_
        refine fg_c_X11_173_24 E hG dX11_piece_31 ?_
        refine lv_iconst (v := (1 : Int32)) E.1 E.2.1 dX11_piece_34 (by decide) ?_
        refine lv_isub E.1 E.2.1 dX11_piece_35 ?_
        obtain ⟨r36, σ36, hcl, hf⟩ := bd_some hf
        refine cl_S (rest := []) (st1 := [.int r36]) (As := [.int x2, .int (0 : Int32), .int ((σ22.1 11) - (1 : Int32))]) E hG (c_c_X11_within hcl) Wd_365 mi_X11_within ⟨Nat.le_of_ble_eq_true rfl, Nat.le_of_ble_eq_true rfl, Nat.zero_le _, Nat.zero_le _⟩ rfl hl.1 rfl (Nat.le_of_ble_eq_true rfl) dX11_piece_36 rfl (fun H locs hG => ?_)
        refine lv_if_ne (tgt := 44) E.1 E.2.1 dX11_piece_39 (by decide) (fun hc => ?_) (fun hc => ?_)
        · replace hf := (if_neg hc).symm.trans hf
          refine lv_iload_n E.1 E.2.1 dX11_piece_44 rfl (lv_at hl 4 rfl) ?_
          refine lv_if_ne (tgt := 56) E.1 E.2.1 dX11_piece_45 (by decide) (fun hc => ?_) (fun hc => ?_)
          · replace hf := (if_neg hc).symm.trans hf
            refine lv_iload_n E.1 E.2.1 dX11_piece_56 rfl (lv_at hl 4 rfl) ?_
            refine lv_iconst (v := (1 : Int32)) E.1 E.2.1 dX11_piece_57 (by decide) ?_
            refine lv_icmp_ne (tgt := 71) E.1 E.2.1 dX11_piece_58 (by decide) (fun hc => ?_) (fun hc => ?_)
            · replace hf := (if_neg hc).symm.trans hf
              refine lv_aload E.1 E.2.1 dX11_piece_71 (lv_at hl 0 rfl) ?_
              refine fg_c_X11_184_24 E hG dX11_piece_73 ?_
              refine lv_iload_n E.1 E.2.1 dX11_piece_76 rfl (lv_at hl 3 rfl) ?_
              obtain ⟨hin, hf⟩ := gd_some hf
              refine al_c_27 E hG hin dX11_piece_77 ?_
              exact r_i E hr hlk hG hf dX11_piece_78
            · replace hf := (if_pos hc).symm.trans hf
              refine lv_aload E.1 E.2.1 dX11_piece_61 (lv_at hl 0 rfl) ?_
              refine fg_c_X11_181_24 E hG dX11_piece_63 ?_
              refine lv_iload_n E.1 E.2.1 dX11_piece_66 rfl (lv_at hl 3 rfl) ?_
              obtain ⟨hin, hf⟩ := gd_some hf
              refine al_c_26 E hG hin dX11_piece_67 ?_
              refine lv_goto (tgt := 78) E.1 E.2.1 dX11_piece_68 (by decide) ?_
              exact r_i E hr hlk hG hf dX11_piece_78
          · replace hf := (if_pos hc).symm.trans hf
            refine lv_aload E.1 E.2.1 dX11_piece_48 (lv_at hl 0 rfl) ?_
            refine fg_c_X11_178_24 E hG dX11_piece_50 ?_
            refine lv_iload_n E.1 E.2.1 dX11_piece_53 rfl (lv_at hl 3 rfl) ?_
            obtain ⟨hin, hf⟩ := gd_some hf
            refine al_c_25 E hG hin dX11_piece_54 ?_
            exact r_i E hr hlk hG hf dX11_piece_55
        · replace hf := (if_pos hc).symm.trans hf
          refine lv_iconst (v := (-1 : Int32)) E.1 E.2.1 dX11_piece_42 (by decide) ?_
          exact r_i E hr hlk hG hf dX11_piece_43
    · replace hf := (if_pos hc).symm.trans hf
      refine lv_iconst (v := (-1 : Int32)) E.1 E.2.1 dX11_piece_18 (by decide) ?_
      exact r_i E hr hlk hG hf dX11_piece_19

set_option maxHeartbeats 4000000 in
set_option maxRecDepth 100000 in
theorem k_c_X5_pairOf_50 {p : Program} {l : Launch} {e : Env} {s : State} {m : MethodId} {args : Array Value} {below : List Frame} {meth : Method} {c : Code} {D : va_G} {ad : Nat → Nat} {cy : ClassId} {r : Int32} {σ' : SS} (E : CallFix p m c cX5_pairOf 5 s args TT yX5_pairOf.cls) (hr : meth.sig.returnType = (some FieldType.int)) (hlk : meth.locks = false) : ∀ (σ : SS) (x1 : Int32) (x2 : Int32), f_c_X5_pairOf_50 σ x1 x2 = some (r, σ') → At p l e 0 0 s m args below meth c D (cw ad cy) (cas ad) cy (some (.int r)) σ' 5 50 [(0, .ref (ad 29)), (1, .int x1), (2, .int x2)] [] σ := by
  intro σ x1 x2 hf H locs ls hG hl
  unfold f_c_X5_pairOf_50 at hf
  refine lv_aload_n E.1 E.2.1 dX5_pairOf_50 rfl (lv_at hl 0 rfl) ?_
  refine fg_c_X5_18_29 E hG dX5_pairOf_51 ?_
  refine lv_aload_n E.1 E.2.1 dX5_pairOf_54 rfl (lv_at hl 0 rfl) ?_
  refine fg_c_X5_36_29 E hG dX5_pairOf_55 ?_
  refine lv_iload_n E.1 E.2.1 dX5_pairOf_58 rfl (lv_at hl 1 rfl) ?_
  obtain ⟨hin, hf⟩ := gd_some hf
  refine as_c_32 E hG hin dX5_pairOf_59 (fun H locs hG => ?_)
  refine lv_aload_n E.1 E.2.1 dX5_pairOf_60 rfl (lv_at hl 0 rfl) ?_
  refine fg_c_X5_21_29 E hG dX5_pairOf_61 ?_
  refine lv_aload_n E.1 E.2.1 dX5_pairOf_64 rfl (lv_at hl 0 rfl) ?_
  refine fg_c_X5_36_29 E hG dX5_pairOf_65 ?_
  refine lv_iload_n E.1 E.2.1 dX5_pairOf_68 rfl (lv_at hl 2 rfl) ?_
  obtain ⟨hin, hf⟩ := gd_some hf
  refine as_c_33 E hG hin dX5_pairOf_69 (fun H locs hG => ?_)
  refine lv_aload_n E.1 E.2.1 dX5_pairOf_70 rfl (lv_at hl 0 rfl) ?_
  refine fg_c_X5_24_29 E hG dX5_pairOf_71 ?_
  refine lv_aload_n E.1 E.2.1 dX5_pairOf_74 rfl (lv_at hl 0 rfl) ?_
  refine fg_c_X5_36_29 E hG dX5_pairOf_75 ?_
  refine lv_iconst (v := (0 : Int32)) E.1 E.2.1 dX5_pairOf_78 (by decide) ?_
  obtain ⟨hin, hf⟩ := gd_some hf
  refine as_c_34 E hG hin dX5_pairOf_79 (fun H locs hG => ?_)
  refine lv_aload_n E.1 E.2.1 dX5_pairOf_80 rfl (lv_at hl 0 rfl) ?_
  refine fg_c_X5_15_29 E hG dX5_pairOf_81 ?_
  refine lv_aload_n E.1 E.2.1 dX5_pairOf_84 rfl (lv_at hl 0 rfl) ?_
  refine fg_c_X5_36_29 E hG dX5_pairOf_85 ?_
  refine lv_aload_n E.1 E.2.1 dX5_pairOf_88 rfl (lv_at hl 0 rfl) ?_
  refine fg_c_X5_11_29 E hG dX5_pairOf_89 ?_
  refine lv_iload_n E.1 E.2.1 dX5_pairOf_92 rfl (lv_at hl 1 rfl) ?_
  obtain ⟨hin, hf⟩ := gd_some hf
  refine al_c_30 E hG hin dX5_pairOf_93 ?_
  obtain ⟨hin, hf⟩ := gd_some hf
  refine as_c_31 E hG hin dX5_pairOf_94 (fun H locs hG => ?_)
  refine lv_aload_n E.1 E.2.1 dX5_pairOf_95 rfl (lv_at hl 0 rfl) ?_
  refine fg_c_X5_11_29 E hG dX5_pairOf_96 ?_
  refine lv_iload_n E.1 E.2.1 dX5_pairOf_99 rfl (lv_at hl 1 rfl) ?_
  refine lv_aload_n E.1 E.2.1 dX5_pairOf_100 rfl (lv_at hl 0 rfl) ?_
  refine fg_c_X5_36_29 E hG dX5_pairOf_101 ?_
  obtain ⟨hin, hf⟩ := gd_some hf
  refine as_c_30 E hG hin dX5_pairOf_104 (fun H locs hG => ?_)
  refine lv_aload_n E.1 E.2.1 dX5_pairOf_105 rfl (lv_at hl 0 rfl) ?_
  refine lv_dup E.1 E.2.1 dX5_pairOf_106 rfl ?_
  refine fg_c_X5_36_29 E hG dX5_pairOf_107 ?_
  refine lv_dup_x1 E.1 E.2.1 dX5_pairOf_110 rfl rfl ?_
  refine lv_iconst (v := (1 : Int32)) E.1 E.2.1 dX5_pairOf_111 (by decide) ?_
  refine lv_iadd E.1 E.2.1 dX5_pairOf_112 ?_
  refine fp_c_X5_36_29 E hG dX5_pairOf_113 (fun H locs hG => ?_)
  exact r_i E hr hlk hG hf dX5_pairOf_116

set_option maxHeartbeats 4000000 in
set_option maxRecDepth 100000 in
theorem k_c_X5_pairOf_10 {p : Program} {l : Launch} {e : Env} {s : State} {m : MethodId} {args : Array Value} {below : List Frame} {meth : Method} {c : Code} {D : va_G} {ad : Nat → Nat} {cy : ClassId} {r : Int32} {σ' : SS} (E : CallFix p m c cX5_pairOf 5 s args TT yX5_pairOf.cls) (hr : meth.sig.returnType = (some FieldType.int)) (hlk : meth.locks = false) (g10 : SS → Int32 → Int32 → Int32 → Int32 → Option (Int32 × SS)) (hg10 : ∀ (σ : SS) (x1 : Int32) (x2 : Int32) (x3 : Int32) (x4 : Int32), g10 σ x1 x2 x3 x4 = some (r, σ') → At p l e 0 0 s m args below meth c D (cw ad cy) (cas ad) cy (some (.int r)) σ' 5 10 [(0, .ref (ad 29)), (1, .int x1), (2, .int x2), (3, .int x3), (4, .int x4)] [] σ) : ∀ (σ : SS) (x1 : Int32) (x2 : Int32) (x3 : Int32) (x4 : Int32), f_c_X5_pairOf_10 g10 σ x1 x2 x3 x4 = some (r, σ') → At p l e 0 0 s m args below meth c D (cw ad cy) (cas ad) cy (some (.int r)) σ' 5 10 [(0, .ref (ad 29)), (1, .int x1), (2, .int x2), (3, .int x3), (4, .int x4)] [] σ := by
  intro σ x1 x2 x3 x4 hf H locs ls hG hl
  unfold f_c_X5_pairOf_10 at hf
  refine lv_iload E.1 E.2.1 dX5_pairOf_10 (lv_at hl 4 rfl) ?_
  refine lv_aload_n E.1 E.2.1 dX5_pairOf_12 rfl (lv_at hl 0 rfl) ?_
  refine fg_c_X5_36_29 E hG dX5_pairOf_13 ?_
  refine lv_icmp_ge (tgt := 50) E.1 E.2.1 dX5_pairOf_16 (by decide) (fun hc => ?_) (fun hc => ?_)
  · replace hf := (if_pos hc).symm.trans hf
    exact k_c_X5_pairOf_50 E hr hlk _ _ _ hf _ _ _ hG (lv_sub hl [0, 1, 2] rfl)
  · replace hf := (if_neg hc).symm.trans hf
    refine lv_iload_n E.1 E.2.1 dX5_pairOf_19 rfl (lv_at hl 3 rfl) ?_
    refine lv_bipush (v := (-2 : Int32)) E.1 E.2.1 dX5_pairOf_20 (by decide) ?_
    refine lv_icmp_eq (tgt := 50) E.1 E.2.1 dX5_pairOf_22 (by decide) (fun hc => ?_) (fun hc => ?_)
    · replace hf := (if_pos hc).symm.trans hf
      exact k_c_X5_pairOf_50 E hr hlk _ _ _ hf _ _ _ hG (lv_sub hl [0, 1, 2] rfl)
    · replace hf := (if_neg hc).symm.trans hf
      refine lv_aload_n E.1 E.2.1 dX5_pairOf_25 rfl (lv_at hl 0 rfl) ?_
      refine fg_c_X5_21_29 E hG dX5_pairOf_26 ?_
      refine lv_iload_n E.1 E.2.1 dX5_pairOf_29 rfl (lv_at hl 3 rfl) ?_
      obtain ⟨hin, hf⟩ := gd_some hf
      refine al_c_33 E hG hin dX5_pairOf_30 ?_
      refine lv_iload_n E.1 E.2.1 dX5_pairOf_31 rfl (lv_at hl 2 rfl) ?_
      refine lv_icmp_ne (tgt := 37) E.1 E.2.1 dX5_pairOf_32 (by decide) (fun hc => ?_) (fun hc => ?_)
      · replace hf := (if_neg hc).symm.trans hf
        refine lv_aload_n E.1 E.2.1 dX5_pairOf_37 rfl (lv_at hl 0 rfl) ?_
        refine fg_c_X5_15_29 E hG dX5_pairOf_38 ?_
        refine lv_iload_n E.1 E.2.1 dX5_pairOf_41 rfl (lv_at hl 3 rfl) ?_
        obtain ⟨hin, hf⟩ := gd_some hf
        refine al_c_31 E hG hin dX5_pairOf_42 ?_
        refine lv_istore_n (lv' := [(3, .int (σ.2 20 (Int32.toNatClampNeg x3))), (0, .ref (ad 29)), (1, .int x1), (2, .int x2), (4, .int x4)]) E.1 E.2.1 dX5_pairOf_43 rfl hl (by decide) rfl (fun ls hl => ?_)
        refine lv_iinc (v := (x4 + (1 : Int32))) (lv' := [(4, .int (x4 + (1 : Int32))), (3, .int (σ.2 20 (Int32.toNatClampNeg x3))), (0, .ref (ad 29)), (1, .int x1), (2, .int x2)]) E.1 E.2.1 dX5_pairOf_44 hl (k := 4) rfl rfl (by decide) rfl (fun ls hl => ?_)
        refine lv_goto (tgt := 10) E.1 E.2.1 dX5_pairOf_47 (by decide) ?_
        exact hg10 _ _ _ _ _ hf _ _ _ hG (lv_sub hl [2, 3, 4, 1, 0] rfl)
      · replace hf := (if_pos hc).symm.trans hf
        refine lv_iload_n E.1 E.2.1 dX5_pairOf_35 rfl (lv_at hl 3 rfl) ?_
        exact r_i E hr hlk hG hf dX5_pairOf_36

set_option maxHeartbeats 4000000 in
set_option maxRecDepth 100000 in
theorem c_c_X5_pairOf {l : Launch} {D : va_G} {ad : Nat → Nat} {cy : ClassId} {σ : SS} {x1 : Int32} {x2 : Int32} {r : Int32} {σ' : SS} (hf : f_c_X5_pairOf σ x1 x2 = some (r, σ')) : Ctr l D (cw ad cy) (cas ad) cy yX5_pairOf cX5_pairOf 5 (some FieldType.int) 0 0 [.ref (ad 29), .int x1, .int x2] σ (some (.int r)) σ' := by
  refine Ctr.of (cw_as ad cy) rfl (Nat.le_of_ble_eq_true rfl) (fun p e s m args below meth c ls E hr hlk hl hG => ?_)
  have hl : lv_has ls 5 [(0, .ref (ad 29)), (1, .int x1), (2, .int x2)] := hl
  unfold f_c_X5_pairOf at hf
  refine lv_aload_n E.1 E.2.1 dX5_pairOf_0 rfl (lv_at hl 0 rfl) ?_
  refine fg_c_X5_11_29 E hG dX5_pairOf_1 ?_
  refine lv_iload_n E.1 E.2.1 dX5_pairOf_4 rfl (lv_at hl 1 rfl) ?_
  obtain ⟨hin, hf⟩ := gd_some hf
  refine al_c_30 E hG hin dX5_pairOf_5 ?_
  refine lv_istore_n (lv' := [(3, .int (σ.2 19 (Int32.toNatClampNeg x1))), (0, .ref (ad 29)), (1, .int x1), (2, .int x2)]) E.1 E.2.1 dX5_pairOf_6 rfl hl (by decide) rfl (fun ls hl => ?_)
  refine lv_iconst (v := (0 : Int32)) E.1 E.2.1 dX5_pairOf_7 (by decide) ?_
  refine lv_istore (lv' := [(4, .int (0 : Int32)), (3, .int (σ.2 19 (Int32.toNatClampNeg x1))), (0, .ref (ad 29)), (1, .int x1), (2, .int x2)]) E.1 E.2.1 dX5_pairOf_8 hl (by decide) rfl (fun ls hl => ?_)
  exact L4_at (P := fun σ x1 x2 x3 x4 => At p l e 0 0 s m args below meth c D (cw ad cy) (cas ad) cy (some (.int r)) σ' 5 10 [(0, .ref (ad 29)), (1, .int x1), (2, .int x2), (3, .int x3), (4, .int x4)] [] σ) (fun g hg => k_c_X5_pairOf_10 E hr hlk g hg) FUEL _ _ _ _ _ hf _ _ _ hG (lv_sub hl [2, 3, 4, 1, 0] rfl)

set_option maxHeartbeats 4000000 in
set_option maxRecDepth 100000 in
theorem k_c_J7_fill_53178_30_5 {p : Program} {l : Launch} {e : Env} {s : State} {m : MethodId} {args : Array Value} {below : List Frame} {meth : Method} {c : Code} {D : va_G} {ad : Nat → Nat} {cy : ClassId} {r : Unit} {σ' : SS} (E : CallFix p m c cJ7_fill_53178 4 s args TT yJ7_fill_53178.cls) (hr : meth.sig.returnType = none) (hlk : meth.locks = false) (g5 : SS → Int32 → Int32 → Int32 → Option (Unit × SS)) (hg5 : ∀ (σ : SS) (x1 : Int32) (x2 : Int32) (x3 : Int32), g5 σ x1 x2 x3 = some (r, σ') → At p l e 0 0 s m args below meth c D (cw ad cy) (cas ad) cy (none) σ' 4 5 [(0, .ref (ad 30)), (1, .int x1), (2, .int x2), (3, .int x3)] [] σ) : ∀ (σ : SS) (x1 : Int32) (x2 : Int32) (x3 : Int32), f_c_J7_fill_53178_30_5 g5 σ x1 x2 x3 = some (r, σ') → At p l e 0 0 s m args below meth c D (cw ad cy) (cas ad) cy (none) σ' 4 5 [(0, .ref (ad 30)), (1, .int x1), (2, .int x2), (3, .int x3)] [] σ := by
  intro σ x1 x2 x3 hf H locs ls hG hl
  unfold f_c_J7_fill_53178_30_5 at hf
  refine lv_iload_n E.1 E.2.1 dJ7_fill_53178_5 rfl (lv_at hl 2 rfl) ?_
  refine lv_iload_n E.1 E.2.1 dJ7_fill_53178_6 rfl (lv_at hl 3 rfl) ?_
  refine lv_icmp_ge (tgt := 20) E.1 E.2.1 dJ7_fill_53178_7 (by decide) (fun hc => ?_) (fun hc => ?_)
  · replace hf := (if_pos hc).symm.trans hf
    exact r_v E hr hlk hG hf dJ7_fill_53178_20
  · replace hf := (if_neg hc).symm.trans hf
    refine lv_aload_n E.1 E.2.1 dJ7_fill_53178_10 rfl (lv_at hl 0 rfl) ?_
    refine lv_iload_n E.1 E.2.1 dJ7_fill_53178_11 rfl (lv_at hl 2 rfl) ?_
    refine lv_iload_n E.1 E.2.1 dJ7_fill_53178_12 rfl (lv_at hl 1 rfl) ?_
    obtain ⟨hin, hf⟩ := gd_some hf
    refine as_c_30 E hG hin dJ7_fill_53178_13 (fun H locs hG => ?_)
    refine lv_iinc (v := (x2 + (1 : Int32))) (lv' := [(2, .int (x2 + (1 : Int32))), (0, .ref (ad 30)), (1, .int x1), (3, .int x3)]) E.1 E.2.1 dJ7_fill_53178_14 hl (k := 2) rfl rfl (by decide) rfl (fun ls hl => ?_)
    refine lv_goto (tgt := 5) E.1 E.2.1 dJ7_fill_53178_17 (by decide) ?_
    exact hg5 _ _ _ _ hf _ _ _ hG (lv_sub hl [1, 2, 0, 3] rfl)

set_option maxHeartbeats 4000000 in
set_option maxRecDepth 100000 in
theorem c_c_J7_fill_53178_30 {l : Launch} {D : va_G} {ad : Nat → Nat} {cy : ClassId} {σ : SS} {x1 : Int32} {r : Unit} {σ' : SS} (hf : f_c_J7_fill_53178_30 σ x1 = some (r, σ')) : Ctr l D (cw ad cy) (cas ad) cy yJ7_fill_53178 cJ7_fill_53178 4 none 0 0 [.ref (ad 30), .int x1] σ (none) σ' := by
  refine Ctr.of (cw_as ad cy) rfl (Nat.le_of_ble_eq_true rfl) (fun p e s m args below meth c ls E hr hlk hl hG => ?_)
  have hl : lv_has ls 4 [(0, .ref (ad 30)), (1, .int x1)] := hl
  unfold f_c_J7_fill_53178_30 at hf
  refine lv_iconst (v := (0 : Int32)) E.1 E.2.1 dJ7_fill_53178_0 (by decide) ?_
  refine lv_istore_n (lv' := [(2, .int (0 : Int32)), (0, .ref (ad 30)), (1, .int x1)]) E.1 E.2.1 dJ7_fill_53178_1 rfl hl (by decide) rfl (fun ls hl => ?_)
  refine lv_aload_n E.1 E.2.1 dJ7_fill_53178_2 rfl (lv_at hl 1 rfl) ?_
  refine an_c_30 E hG dJ7_fill_53178_3 ?_
  refine lv_istore_n (lv' := [(3, .int (216 : Int32)), (2, .int (0 : Int32)), (0, .ref (ad 30)), (1, .int x1)]) E.1 E.2.1 dJ7_fill_53178_4 rfl hl (by decide) rfl (fun ls hl => ?_)
  exact L3_at (P := fun σ x1 x2 x3 => At p l e 0 0 s m args below meth c D (cw ad cy) (cas ad) cy (none) σ' 4 5 [(0, .ref (ad 30)), (1, .int x1), (2, .int x2), (3, .int x3)] [] σ) (fun g hg => k_c_J7_fill_53178_30_5 E hr hlk g hg) FUEL _ _ _ _ hf _ _ _ hG (lv_sub hl [2, 3, 1, 0] rfl)

set_option maxHeartbeats 4000000 in
set_option maxRecDepth 100000 in
theorem k_c_X5_tally_60 {p : Program} {l : Launch} {e : Env} {s : State} {m : MethodId} {args : Array Value} {below : List Frame} {meth : Method} {c : Code} {D : va_G} {ad : Nat → Nat} {cy : ClassId} {r : Unit} {σ' : SS} (E : CallFix p m c cX5_tally 5 s args TT yX5_tally.cls) (hr : meth.sig.returnType = none) (hlk : meth.locks = false) (g16 : SS → Int32 → Int32 → Option (Unit × SS)) (hg16 : ∀ (σ : SS) (x2 : Int32) (x3 : Int32), g16 σ x2 x3 = some (r, σ') → At p l e 1 24 s m args below meth c D (cw ad cy) (cas ad) cy (none) σ' 5 16 [(0, .ref (ad 29)), (1, .ref (ad 36)), (2, .int x2), (3, .int x3)] [] σ) : ∀ (σ : SS) (x2 : Int32) (x3 : Int32) (x4 : Int32), f_c_X5_tally_60 g16 σ x2 x3 x4 = some (r, σ') → At p l e 1 24 s m args below meth c D (cw ad cy) (cas ad) cy (none) σ' 5 60 [(0, .ref (ad 29)), (1, .ref (ad 36)), (2, .int x2), (3, .int x3), (4, .int x4)] [] σ := by
  intro σ x2 x3 x4 hf H locs ls hG hl
  unfold f_c_X5_tally_60 at hf
  refine lv_aload_n E.1 E.2.1 dX5_tally_60 rfl (lv_at hl 0 rfl) ?_
  refine fg_c_X5_24_29 E hG dX5_tally_61 ?_
  refine lv_iload E.1 E.2.1 dX5_tally_64 (lv_at hl 4 rfl) ?_
  refine lv_dup2_11 E.1 E.2.1 dX5_tally_66 rfl rfl ?_
  obtain ⟨hin, hf⟩ := gd_some hf
  refine al_c_34 E hG hin dX5_tally_67 ?_
  refine lv_iconst (v := (1 : Int32)) E.1 E.2.1 dX5_tally_68 (by decide) ?_
  refine lv_iadd E.1 E.2.1 dX5_tally_69 ?_
  obtain ⟨hin, hf⟩ := gd_some hf
  refine as_c_34 E hG hin dX5_tally_70 (fun H locs hG => ?_)
  refine lv_aload_n E.1 E.2.1 dX5_tally_71 rfl (lv_at hl 0 rfl) ?_
  refine fg_c_X5_27_29 E hG dX5_tally_72 ?_
  refine lv_iload E.1 E.2.1 dX5_tally_75 (lv_at hl 4 rfl) ?_
  refine lv_iload_n E.1 E.2.1 dX5_tally_77 rfl (lv_at hl 3 rfl) ?_
  obtain ⟨hin, hf⟩ := gd_some hf
  refine as_c_35 E hG hin dX5_tally_78 (fun H locs hG => ?_)
  refine lv_iinc (v := (x3 + (1 : Int32))) (lv' := [(3, .int (x3 + (1 : Int32))), (0, .ref (ad 29)), (1, .ref (ad 36)), (2, .int x2), (4, .int x4)]) E.1 E.2.1 dX5_tally_79 hl (k := 3) rfl rfl (by decide) rfl (fun ls hl => ?_)
  refine lv_goto (tgt := 16) E.1 E.2.1 dX5_tally_82 (by decide) ?_
  exact hg16 _ _ _ hf _ _ _ hG (lv_sub hl [1, 2, 3, 0] rfl)

set_option maxHeartbeats 4000000 in
set_option maxRecDepth 100000 in
theorem k_c_X5_tally_16 {p : Program} {l : Launch} {e : Env} {s : State} {m : MethodId} {args : Array Value} {below : List Frame} {meth : Method} {c : Code} {D : va_G} {ad : Nat → Nat} {cy : ClassId} {r : Unit} {σ' : SS} (E : CallFix p m c cX5_tally 5 s args TT yX5_tally.cls) (hr : meth.sig.returnType = none) (hlk : meth.locks = false) (g16 : SS → Int32 → Int32 → Option (Unit × SS)) (hg16 : ∀ (σ : SS) (x2 : Int32) (x3 : Int32), g16 σ x2 x3 = some (r, σ') → At p l e 1 24 s m args below meth c D (cw ad cy) (cas ad) cy (none) σ' 5 16 [(0, .ref (ad 29)), (1, .ref (ad 36)), (2, .int x2), (3, .int x3)] [] σ) : ∀ (σ : SS) (x2 : Int32) (x3 : Int32), f_c_X5_tally_16 g16 σ x2 x3 = some (r, σ') → At p l e 1 24 s m args below meth c D (cw ad cy) (cas ad) cy (none) σ' 5 16 [(0, .ref (ad 29)), (1, .ref (ad 36)), (2, .int x2), (3, .int x3)] [] σ := by
  intro σ x2 x3 hf H locs ls hG hl
  unfold f_c_X5_tally_16 at hf
  refine lv_iload_n E.1 E.2.1 dX5_tally_16 rfl (lv_at hl 3 rfl) ?_
  refine lv_iconst (v := (1 : Int32)) E.1 E.2.1 dX5_tally_17 (by decide) ?_
  refine lv_iadd E.1 E.2.1 dX5_tally_18 ?_
  refine lv_iload_n E.1 E.2.1 dX5_tally_19 rfl (lv_at hl 2 rfl) ?_
  refine lv_icmp_ge (tgt := 85) E.1 E.2.1 dX5_tally_20 (by decide) (fun hc => ?_) (fun hc => ?_)
  · replace hf := (if_pos hc).symm.trans hf
    exact r_v E hr hlk hG hf dX5_tally_85
  · replace hf := (if_neg hc).symm.trans hf
    refine lv_aload_n E.1 E.2.1 dX5_tally_23 rfl (lv_at hl 0 rfl) ?_
    refine lv_aload_n E.1 E.2.1 dX5_tally_24 rfl (lv_at hl 1 rfl) ?_
    refine lv_iload_n E.1 E.2.1 dX5_tally_25 rfl (lv_at hl 3 rfl) ?_
    obtain ⟨hin, hf⟩ := gd_some hf
    refine al_c_36 E hG hin dX5_tally_26 ?_
    refine lv_aload_n E.1 E.2.1 dX5_tally_27 rfl (lv_at hl 1 rfl) ?_
    refine lv_iload_n E.1 E.2.1 dX5_tally_28 rfl (lv_at hl 3 rfl) ?_
    refine lv_iconst (v := (1 : Int32)) E.1 E.2.1 dX5_tally_29 (by decide) ?_
    refine lv_iadd E.1 E.2.1 dX5_tally_30 ?_
    obtain ⟨hin, hf⟩ := gd_some hf
    refine al_c_36 E hG hin dX5_tally_31 ?_
    obtain ⟨r32, σ32, hcl, hf⟩ := bd_some hf
    refine cl_V (rest := []) (st1 := [.int r32]) (As := [.int (σ.2 25 (Int32.toNatClampNeg x3)), .int (σ.2 25 (Int32.toNatClampNeg (x3 + (1 : Int32))))]) E hG (c_c_X5_pairOf hcl) Wd_608 mi_X5_pairOf ⟨Nat.le_of_ble_eq_true rfl, Nat.le_of_ble_eq_true rfl, Nat.zero_le _, Nat.zero_le _⟩ 7 29 rfl rfl rfl hl.1 rfl (Nat.le_of_ble_eq_true rfl) dX5_tally_32 rfl (fun H locs hG => ?_)
    refine lv_istore (lv' := [(4, .int r32), (0, .ref (ad 29)), (1, .ref (ad 36)), (2, .int x2), (3, .int x3)]) E.1 E.2.1 dX5_tally_35 hl (by decide) rfl (fun ls hl => ?_)
    refine lv_aload_n E.1 E.2.1 dX5_tally_37 rfl (lv_at hl 1 rfl) ?_
    refine fg_c_X5_24_29 E hG dX5_tally_38 ?_
    refine lv_iload E.1 E.2.1 dX5_tally_41 (lv_at hl 0 rfl) ?_
    obtain ⟨hin, hf⟩ := gd_some hf
    refine al_c_34 E hG hin dX5_tally_43 ?_
    refine lv_if_eq (tgt := 60) E.1 E.2.1 dX5_tally_44 (by decide) (fun hc => ?_) (fun hc => ?_)
    · replace hf := (if_pos hc).symm.trans hf
      exact k_c_X5_tally_60 E hr hlk g16 hg16 _ _ _ _ hf _ _ _ hG (lv_sub hl [1, 2, 3, 4, 0] rfl)
    · replace hf := (if_neg hc).symm.trans hf
      refine lv_aload_n E.1 E.2.1 dX5_tally_47 rfl (lv_at hl 1 rfl) ?_
      refine fg_c_X5_27_29 E hG dX5_tally_48 ?_
      refine lv_iload E.1 E.2.1 dX5_tally_51 (lv_at hl 0 rfl) ?_
      obtain ⟨hin, hf⟩ := gd_some hf
      refine al_c_35 E hG hin dX5_tally_53 ?_
      refine lv_iconst (v := (1 : Int32)) E.1 E.2.1 dX5_tally_54 (by decide) ?_
      refine lv_iadd E.1 E.2.1 dX5_tally_55 ?_
      refine lv_iload_n E.1 E.2.1 dX5_tally_56 rfl (lv_at hl 4 rfl) ?_
      refine lv_icmp_ge (tgt := 79) E.1 E.2.1 dX5_tally_57 (by decide) (fun hc => ?_) (fun hc => ?_)
      · replace hf := (if_pos hc).symm.trans hf
        refine lv_iinc (v := (x3 + (1 : Int32))) (lv' := [(3, .int (x3 + (1 : Int32))), (4, .int r32), (0, .ref (ad 29)), (1, .ref (ad 36)), (2, .int x2)]) E.1 E.2.1 dX5_tally_79 hl (k := 4) rfl rfl (by decide) rfl (fun ls hl => ?_)
        refine lv_goto (tgt := 16) E.1 E.2.1 dX5_tally_82 (by decide) ?_
        exact hg16 _ _ _ hf _ _ _ hG (lv_sub hl [2, 3, 4, 0] rfl)
      · replace hf := (if_neg hc).symm.trans hf
        exact k_c_X5_tally_60 E hr hlk g16 hg16 _ _ _ _ hf _ _ _ hG (lv_sub hl [1, 2, 3, 4, 0] rfl)

set_option maxHeartbeats 4000000 in
set_option maxRecDepth 100000 in
theorem c_c_X5_tally {l : Launch} {D : va_G} {ad : Nat → Nat} {cy : ClassId} {σ : SS} {x2 : Int32} {r : Unit} {σ' : SS} (hf : f_c_X5_tally σ x2 = some (r, σ')) : Ctr l D (cw ad cy) (cas ad) cy yX5_tally cX5_tally 5 none 1 24 [.ref (ad 29), .ref (ad 36), .int x2] σ (none) σ' := by
  refine Ctr.of (cw_as ad cy) rfl (Nat.le_of_ble_eq_true rfl) (fun p e s m args below meth c ls E hr hlk hl hG => ?_)
  have hl : lv_has ls 5 [(0, .ref (ad 29)), (1, .ref (ad 36)), (2, .int x2)] := hl
  unfold f_c_X5_tally at hf
  refine lv_aload_n E.1 E.2.1 dX5_tally_0 rfl (lv_at hl 0 rfl) ?_
  refine fg_c_X5_11_29 E hG dX5_tally_1 ?_
  refine lv_bipush (v := (-2 : Int32)) E.1 E.2.1 dX5_tally_4 (by decide) ?_
  obtain ⟨r6, σ6, hcl, hf⟩ := bd_some hf
  refine cl_S (rest := []) (st1 := []) (As := [.ref (ad 30), .int (-2 : Int32)]) E hG (c_c_J7_fill_53178_30 hcl) Wd_607 mi_J7_fill_53178 ⟨Nat.le_of_ble_eq_true rfl, Nat.le_of_ble_eq_true rfl, Nat.zero_le _, Nat.zero_le _⟩ rfl hl.1 rfl (Nat.le_of_ble_eq_true rfl) dX5_tally_6 rfl (fun H locs hG => ?_)
  refine lv_aload_n E.1 E.2.1 dX5_tally_9 rfl (lv_at hl 0 rfl) ?_
  refine lv_iconst (v := (0 : Int32)) E.1 E.2.1 dX5_tally_10 (by decide) ?_
  refine fp_c_X5_36_29 E hG dX5_tally_11 (fun H locs hG => ?_)
  refine lv_iconst (v := (0 : Int32)) E.1 E.2.1 dX5_tally_14 (by decide) ?_
  refine lv_istore_n (lv' := [(3, .int (0 : Int32)), (0, .ref (ad 29)), (1, .ref (ad 36)), (2, .int x2)]) E.1 E.2.1 dX5_tally_15 rfl hl (by decide) rfl (fun ls hl => ?_)
  exact L2_at (P := fun σ x2 x3 => At p l e 1 24 s m args below meth c D (cw ad cy) (cas ad) cy (none) σ' 5 16 [(0, .ref (ad 29)), (1, .ref (ad 36)), (2, .int x2), (3, .int x3)] [] σ) (fun g hg => k_c_X5_tally_16 E hr hlk g hg) FUEL _ _ _ hf _ _ _ hG (lv_sub hl [1, 2, 3, 0] rfl)

set_option maxHeartbeats 4000000 in
set_option maxRecDepth 100000 in
theorem c_c_X5_goesBefore {l : Launch} {D : va_G} {ad : Nat → Nat} {cy : ClassId} {σ : SS} {x1 : Int32} {x2 : Int32} {r : Int32} {σ' : SS} (hf : f_c_X5_goesBefore σ x1 x2 = some (r, σ')) : Ctr l D (cw ad cy) (cas ad) cy yX5_goesBefore cX5_goesBefore 3 (some FieldType.boolean) 0 0 [.ref (ad 29), .int x1, .int x2] σ (some (.int r)) σ' := by
  refine Ctr.of (cw_as ad cy) rfl (Nat.le_of_ble_eq_true rfl) (fun p e s m args below meth c ls E hr hlk hl hG => ?_)
  have hl : lv_has ls 3 [(0, .ref (ad 29)), (1, .int x1), (2, .int x2)] := hl
  unfold f_c_X5_goesBefore at hf
  refine lv_aload_n E.1 E.2.1 dX5_goesBefore_0 rfl (lv_at hl 0 rfl) ?_
  refine fg_c_X5_24_29 E hG dX5_goesBefore_1 ?_
  refine lv_iload_n E.1 E.2.1 dX5_goesBefore_4 rfl (lv_at hl 1 rfl) ?_
  obtain ⟨hin, hf⟩ := gd_some hf
  refine al_c_34 E hG hin dX5_goesBefore_5 ?_
  refine lv_aload_n E.1 E.2.1 dX5_goesBefore_6 rfl (lv_at hl 0 rfl) ?_
  refine fg_c_X5_24_29 E hG dX5_goesBefore_7 ?_
  refine lv_iload_n E.1 E.2.1 dX5_goesBefore_10 rfl (lv_at hl 2 rfl) ?_
  obtain ⟨hin, hf⟩ := gd_some hf
  refine al_c_34 E hG hin dX5_goesBefore_11 ?_
  refine lv_icmp_eq (tgt := 36) E.1 E.2.1 dX5_goesBefore_12 (by decide) (fun hc => ?_) (fun hc => ?_)
  · replace hf := (if_pos hc).symm.trans hf
    refine lv_aload_n E.1 E.2.1 dX5_goesBefore_36 rfl (lv_at hl 0 rfl) ?_
    refine fg_c_X5_18_29 E hG dX5_goesBefore_37 ?_
    refine lv_iload_n E.1 E.2.1 dX5_goesBefore_40 rfl (lv_at hl 1 rfl) ?_
    obtain ⟨hin, hf⟩ := gd_some hf
    refine al_c_32 E hG hin dX5_goesBefore_41 ?_
    refine lv_aload_n E.1 E.2.1 dX5_goesBefore_42 rfl (lv_at hl 0 rfl) ?_
    refine fg_c_X5_18_29 E hG dX5_goesBefore_43 ?_
    refine lv_iload_n E.1 E.2.1 dX5_goesBefore_46 rfl (lv_at hl 2 rfl) ?_
    obtain ⟨hin, hf⟩ := gd_some hf
    refine al_c_32 E hG hin dX5_goesBefore_47 ?_
    refine lv_icmp_eq (tgt := 72) E.1 E.2.1 dX5_goesBefore_48 (by decide) (fun hc => ?_) (fun hc => ?_)
    · replace hf := (if_pos hc).symm.trans hf
      refine lv_aload_n E.1 E.2.1 dX5_goesBefore_72 rfl (lv_at hl 0 rfl) ?_
      refine fg_c_X5_21_29 E hG dX5_goesBefore_73 ?_
      refine lv_iload_n E.1 E.2.1 dX5_goesBefore_76 rfl (lv_at hl 1 rfl) ?_
      obtain ⟨hin, hf⟩ := gd_some hf
      refine al_c_33 E hG hin dX5_goesBefore_77 ?_
      refine lv_aload_n E.1 E.2.1 dX5_goesBefore_78 rfl (lv_at hl 0 rfl) ?_
      refine fg_c_X5_21_29 E hG dX5_goesBefore_79 ?_
      refine lv_iload_n E.1 E.2.1 dX5_goesBefore_82 rfl (lv_at hl 2 rfl) ?_
      obtain ⟨hin, hf⟩ := gd_some hf
      refine al_c_33 E hG hin dX5_goesBefore_83 ?_
      refine lv_icmp_ge (tgt := 91) E.1 E.2.1 dX5_goesBefore_84 (by decide) (fun hc => ?_) (fun hc => ?_)
      · replace hf := (if_pos hc).symm.trans hf
        refine lv_iconst (v := (0 : Int32)) E.1 E.2.1 dX5_goesBefore_91 (by decide) ?_
        exact r_z E hr hlk hG hf (by decide +kernel) dX5_goesBefore_92
      · replace hf := (if_neg hc).symm.trans hf
        refine lv_iconst (v := (1 : Int32)) E.1 E.2.1 dX5_goesBefore_87 (by decide) ?_
        refine lv_goto (tgt := 92) E.1 E.2.1 dX5_goesBefore_88 (by decide) ?_
        exact r_z E hr hlk hG hf (by decide +kernel) dX5_goesBefore_92
    · replace hf := (if_neg hc).symm.trans hf
      refine lv_aload_n E.1 E.2.1 dX5_goesBefore_51 rfl (lv_at hl 0 rfl) ?_
      refine fg_c_X5_18_29 E hG dX5_goesBefore_52 ?_
      refine lv_iload_n E.1 E.2.1 dX5_goesBefore_55 rfl (lv_at hl 1 rfl) ?_
      obtain ⟨hin, hf⟩ := gd_some hf
      refine al_c_32 E hG hin dX5_goesBefore_56 ?_
      refine lv_aload_n E.1 E.2.1 dX5_goesBefore_57 rfl (lv_at hl 0 rfl) ?_
      refine fg_c_X5_18_29 E hG dX5_goesBefore_58 ?_
      refine lv_iload_n E.1 E.2.1 dX5_goesBefore_61 rfl (lv_at hl 2 rfl) ?_
      obtain ⟨hin, hf⟩ := gd_some hf
      refine al_c_32 E hG hin dX5_goesBefore_62 ?_
      refine lv_icmp_ge (tgt := 70) E.1 E.2.1 dX5_goesBefore_63 (by decide) (fun hc => ?_) (fun hc => ?_)
      · replace hf := (if_pos hc).symm.trans hf
        refine lv_iconst (v := (0 : Int32)) E.1 E.2.1 dX5_goesBefore_70 (by decide) ?_
        exact r_z E hr hlk hG hf (by decide +kernel) dX5_goesBefore_71
      · replace hf := (if_neg hc).symm.trans hf
        refine lv_iconst (v := (1 : Int32)) E.1 E.2.1 dX5_goesBefore_66 (by decide) ?_
        refine lv_goto (tgt := 71) E.1 E.2.1 dX5_goesBefore_67 (by decide) ?_
        exact r_z E hr hlk hG hf (by decide +kernel) dX5_goesBefore_71
  · replace hf := (if_neg hc).symm.trans hf
    refine lv_aload_n E.1 E.2.1 dX5_goesBefore_15 rfl (lv_at hl 0 rfl) ?_
    refine fg_c_X5_24_29 E hG dX5_goesBefore_16 ?_
    refine lv_iload_n E.1 E.2.1 dX5_goesBefore_19 rfl (lv_at hl 1 rfl) ?_
    obtain ⟨hin, hf⟩ := gd_some hf
    refine al_c_34 E hG hin dX5_goesBefore_20 ?_
    refine lv_aload_n E.1 E.2.1 dX5_goesBefore_21 rfl (lv_at hl 0 rfl) ?_
    refine fg_c_X5_24_29 E hG dX5_goesBefore_22 ?_
    refine lv_iload_n E.1 E.2.1 dX5_goesBefore_25 rfl (lv_at hl 2 rfl) ?_
    obtain ⟨hin, hf⟩ := gd_some hf
    refine al_c_34 E hG hin dX5_goesBefore_26 ?_
    refine lv_icmp_le (tgt := 34) E.1 E.2.1 dX5_goesBefore_27 (by decide) (fun hc => ?_) (fun hc => ?_)
    · replace hf := (if_pos hc).symm.trans hf
      refine lv_iconst (v := (0 : Int32)) E.1 E.2.1 dX5_goesBefore_34 (by decide) ?_
      exact r_z E hr hlk hG hf (by decide +kernel) dX5_goesBefore_35
    · replace hf := (if_neg hc).symm.trans hf
      refine lv_iconst (v := (1 : Int32)) E.1 E.2.1 dX5_goesBefore_30 (by decide) ?_
      refine lv_goto (tgt := 35) E.1 E.2.1 dX5_goesBefore_31 (by decide) ?_
      exact r_z E hr hlk hG hf (by decide +kernel) dX5_goesBefore_35

set_option maxHeartbeats 4000000 in
set_option maxRecDepth 100000 in
theorem k_c_X5_best_5 {p : Program} {l : Launch} {e : Env} {s : State} {m : MethodId} {args : Array Value} {below : List Frame} {meth : Method} {c : Code} {D : va_G} {ad : Nat → Nat} {cy : ClassId} {r : Int32} {σ' : SS} (E : CallFix p m c cX5_best 3 s args TT yX5_best.cls) (hr : meth.sig.returnType = (some FieldType.int)) (hlk : meth.locks = false) (g5 : SS → Int32 → Int32 → Option (Int32 × SS)) (hg5 : ∀ (σ : SS) (x1 : Int32) (x2 : Int32), g5 σ x1 x2 = some (r, σ') → At p l e 1 22 s m args below meth c D (cw ad cy) (cas ad) cy (some (.int r)) σ' 3 5 [(0, .ref (ad 29)), (1, .int x1), (2, .int x2)] [] σ) : ∀ (σ : SS) (x1 : Int32) (x2 : Int32), f_c_X5_best_5 g5 σ x1 x2 = some (r, σ') → At p l e 1 22 s m args below meth c D (cw ad cy) (cas ad) cy (some (.int r)) σ' 3 5 [(0, .ref (ad 29)), (1, .int x1), (2, .int x2)] [] σ := by
  intro σ x1 x2 hf H locs ls hG hl
  unfold f_c_X5_best_5 at hf
  refine lv_iload_n E.1 E.2.1 dX5_best_5 rfl (lv_at hl 2 rfl) ?_
  refine lv_aload_n E.1 E.2.1 dX5_best_6 rfl (lv_at hl 0 rfl) ?_
  refine fg_c_X5_36_29 E hG dX5_best_7 ?_
  refine lv_icmp_ge (tgt := 46) E.1 E.2.1 dX5_best_10 (by decide) (fun hc => ?_) (fun hc => ?_)
  · replace hf := (if_pos hc).symm.trans hf
    refine lv_iload_n E.1 E.2.1 dX5_best_46 rfl (lv_at hl 1 rfl) ?_
    exact r_i E hr hlk hG hf dX5_best_47
  · replace hf := (if_neg hc).symm.trans hf
    refine lv_aload_n E.1 E.2.1 dX5_best_13 rfl (lv_at hl 0 rfl) ?_
    refine fg_c_X5_24_29 E hG dX5_best_14 ?_
    refine lv_iload_n E.1 E.2.1 dX5_best_17 rfl (lv_at hl 2 rfl) ?_
    obtain ⟨hin, hf⟩ := gd_some hf
    refine al_c_34 E hG hin dX5_best_18 ?_
    refine lv_iconst (v := (2 : Int32)) E.1 E.2.1 dX5_best_19 (by decide) ?_
    refine lv_icmp_lt (tgt := 40) E.1 E.2.1 dX5_best_20 (by decide) (fun hc => ?_) (fun hc => ?_)
    · replace hf := (if_pos hc).symm.trans hf
      refine lv_iinc (v := (x2 + (1 : Int32))) (lv' := [(2, .int (x2 + (1 : Int32))), (0, .ref (ad 29)), (1, .int x1)]) E.1 E.2.1 dX5_best_40 hl (k := 2) rfl rfl (by decide) rfl (fun ls hl => ?_)
      refine lv_goto (tgt := 5) E.1 E.2.1 dX5_best_43 (by decide) ?_
      exact hg5 _ _ _ hf _ _ _ hG (lv_sub hl [1, 2, 0] rfl)
    · replace hf := (if_neg hc).symm.trans hf
      refine lv_iload_n E.1 E.2.1 dX5_best_23 rfl (lv_at hl 1 rfl) ?_
      refine lv_bipush (v := (-2 : Int32)) E.1 E.2.1 dX5_best_24 (by decide) ?_
      refine lv_icmp_eq (tgt := 38) E.1 E.2.1 dX5_best_26 (by decide) (fun hc => ?_) (fun hc => ?_)
      · replace hf := (if_pos hc).symm.trans hf
        refine lv_iload_n E.1 E.2.1 dX5_best_38 rfl (lv_at hl 2 rfl) ?_
        refine lv_istore_n (lv' := [(1, .int x2), (0, .ref (ad 29)), (2, .int x2)]) E.1 E.2.1 dX5_best_39 rfl hl (by decide) rfl (fun ls hl => ?_)
        refine lv_iinc (v := (x2 + (1 : Int32))) (lv' := [(2, .int (x2 + (1 : Int32))), (1, .int x2), (0, .ref (ad 29))]) E.1 E.2.1 dX5_best_40 hl (k := 2) rfl rfl (by decide) rfl (fun ls hl => ?_)
        refine lv_goto (tgt := 5) E.1 E.2.1 dX5_best_43 (by decide) ?_
        exact hg5 _ _ _ hf _ _ _ hG (lv_sub hl [2, 1, 0] rfl)
      · replace hf := (if_neg hc).symm.trans hf
        refine lv_aload_n E.1 E.2.1 dX5_best_29 rfl (lv_at hl 0 rfl) ?_
        refine lv_iload_n E.1 E.2.1 dX5_best_30 rfl (lv_at hl 2 rfl) ?_
        refine lv_iload_n E.1 E.2.1 dX5_best_31 rfl (lv_at hl 1 rfl) ?_
        obtain ⟨r32, σ32, hcl, hf⟩ := bd_some hf
        refine cl_V (rest := []) (st1 := [.int r32]) (As := [.int x2, .int x1]) E hG (c_c_X5_goesBefore hcl) Wd_616 mi_X5_goesBefore ⟨Nat.le_of_ble_eq_true rfl, Nat.le_of_ble_eq_true rfl, Nat.zero_le _, Nat.zero_le _⟩ 7 29 rfl rfl rfl hl.1 rfl (Nat.le_of_ble_eq_true rfl) dX5_best_32 rfl (fun H locs hG => ?_)
        refine lv_if_eq (tgt := 40) E.1 E.2.1 dX5_best_35 (by decide) (fun hc => ?_) (fun hc => ?_)
        · replace hf := (if_pos hc).symm.trans hf
          refine lv_iinc (v := (x2 + (1 : Int32))) (lv' := [(2, .int (x2 + (1 : Int32))), (0, .ref (ad 29)), (1, .int x1)]) E.1 E.2.1 dX5_best_40 hl (k := 2) rfl rfl (by decide) rfl (fun ls hl => ?_)
          refine lv_goto (tgt := 5) E.1 E.2.1 dX5_best_43 (by decide) ?_
          exact hg5 _ _ _ hf _ _ _ hG (lv_sub hl [1, 2, 0] rfl)
        · replace hf := (if_neg hc).symm.trans hf
          refine lv_iload_n E.1 E.2.1 dX5_best_38 rfl (lv_at hl 2 rfl) ?_
          refine lv_istore_n (lv' := [(1, .int x2), (0, .ref (ad 29)), (2, .int x2)]) E.1 E.2.1 dX5_best_39 rfl hl (by decide) rfl (fun ls hl => ?_)
          refine lv_iinc (v := (x2 + (1 : Int32))) (lv' := [(2, .int (x2 + (1 : Int32))), (1, .int x2), (0, .ref (ad 29))]) E.1 E.2.1 dX5_best_40 hl (k := 2) rfl rfl (by decide) rfl (fun ls hl => ?_)
          refine lv_goto (tgt := 5) E.1 E.2.1 dX5_best_43 (by decide) ?_
          exact hg5 _ _ _ hf _ _ _ hG (lv_sub hl [2, 1, 0] rfl)

set_option maxHeartbeats 4000000 in
set_option maxRecDepth 100000 in
theorem c_c_X5_best {l : Launch} {D : va_G} {ad : Nat → Nat} {cy : ClassId} {σ : SS} {r : Int32} {σ' : SS} (hf : f_c_X5_best σ = some (r, σ')) : Ctr l D (cw ad cy) (cas ad) cy yX5_best cX5_best 3 (some FieldType.int) 1 22 [.ref (ad 29)] σ (some (.int r)) σ' := by
  refine Ctr.of (cw_as ad cy) rfl (Nat.le_of_ble_eq_true rfl) (fun p e s m args below meth c ls E hr hlk hl hG => ?_)
  have hl : lv_has ls 3 [(0, .ref (ad 29))] := hl
  unfold f_c_X5_best at hf
  refine lv_bipush (v := (-2 : Int32)) E.1 E.2.1 dX5_best_0 (by decide) ?_
  refine lv_istore_n (lv' := [(1, .int (-2 : Int32)), (0, .ref (ad 29))]) E.1 E.2.1 dX5_best_2 rfl hl (by decide) rfl (fun ls hl => ?_)
  refine lv_iconst (v := (0 : Int32)) E.1 E.2.1 dX5_best_3 (by decide) ?_
  refine lv_istore_n (lv' := [(2, .int (0 : Int32)), (1, .int (-2 : Int32)), (0, .ref (ad 29))]) E.1 E.2.1 dX5_best_4 rfl hl (by decide) rfl (fun ls hl => ?_)
  exact L2_at (P := fun σ x1 x2 => At p l e 1 22 s m args below meth c D (cw ad cy) (cas ad) cy (some (.int r)) σ' 3 5 [(0, .ref (ad 29)), (1, .int x1), (2, .int x2)] [] σ) (fun g hg => k_c_X5_best_5 E hr hlk g hg) FUEL _ _ _ hf _ _ _ hG (lv_sub hl [2, 1, 0] rfl)

set_option maxHeartbeats 4000000 in
set_option maxRecDepth 100000 in
theorem k_c_X3_replacePair_60 {p : Program} {l : Launch} {e : Env} {s : State} {m : MethodId} {args : Array Value} {below : List Frame} {meth : Method} {c : Code} {D : va_G} {ad : Nat → Nat} {cy : ClassId} {r : Unit} {σ' : SS} (E : CallFix p m c cX3_replacePair 7 s args TT yX3_replacePair.cls) (hr : meth.sig.returnType = none) (hlk : meth.locks = false) (g6 : SS → Int32 → Int32 → Int32 → Int32 → Int32 → Option (Unit × SS)) (hg6 : ∀ (σ : SS) (x1 : Int32) (x2 : Int32) (x3 : Int32) (x4 : Int32) (x5 : Int32), g6 σ x1 x2 x3 x4 x5 = some (r, σ') → At p l e 0 0 s m args below meth c D (cw ad cy) (cas ad) cy (none) σ' 7 6 [(0, .ref (ad 28)), (1, .int x1), (2, .int x2), (3, .int x3), (4, .int x4), (5, .int x5)] [] σ) : ∀ (σ : SS) (x1 : Int32) (x2 : Int32) (x3 : Int32) (x4 : Int32) (x5 : Int32) (x6 : Int32), f_c_X3_replacePair_60 g6 σ x1 x2 x3 x4 x5 x6 = some (r, σ') → At p l e 0 0 s m args below meth c D (cw ad cy) (cas ad) cy (none) σ' 7 60 [(0, .ref (ad 28)), (1, .int x1), (2, .int x2), (3, .int x3), (4, .int x4), (5, .int x5), (6, .int x6)] [] σ := by
  intro σ x1 x2 x3 x4 x5 x6 hf H locs ls hG hl
  unfold f_c_X3_replacePair_60 at hf
  refine lv_aload_n E.1 E.2.1 dX3_replacePair_60 rfl (lv_at hl 0 rfl) ?_
  refine fg_c_X3_18_28 E hG dX3_replacePair_61 ?_
  refine lv_iload E.1 E.2.1 dX3_replacePair_64 (lv_at hl 4 rfl) ?_
  refine lv_iload E.1 E.2.1 dX3_replacePair_66 (lv_at hl 6 rfl) ?_
  obtain ⟨hin, hf⟩ := gd_some hf
  refine as_c_36 E hG hin dX3_replacePair_68 (fun H locs hG => ?_)
  refine lv_iinc (v := (x4 + (1 : Int32))) (lv' := [(4, .int (x4 + (1 : Int32))), (0, .ref (ad 28)), (1, .int x1), (2, .int x2), (3, .int x3), (5, .int x5), (6, .int x6)]) E.1 E.2.1 dX3_replacePair_69 hl (k := 4) rfl rfl (by decide) rfl (fun ls hl => ?_)
  refine lv_iinc (v := (x5 + (1 : Int32))) (lv' := [(5, .int (x5 + (1 : Int32))), (4, .int (x4 + (1 : Int32))), (0, .ref (ad 28)), (1, .int x1), (2, .int x2), (3, .int x3), (6, .int x6)]) E.1 E.2.1 dX3_replacePair_72 hl (k := 5) rfl rfl (by decide) rfl (fun ls hl => ?_)
  refine lv_goto (tgt := 6) E.1 E.2.1 dX3_replacePair_75 (by decide) ?_
  exact hg6 _ _ _ _ _ _ hf _ _ _ hG (lv_sub hl [2, 3, 4, 5, 1, 0] rfl)

set_option maxHeartbeats 4000000 in
set_option maxRecDepth 100000 in
theorem k_c_X3_replacePair_6 {p : Program} {l : Launch} {e : Env} {s : State} {m : MethodId} {args : Array Value} {below : List Frame} {meth : Method} {c : Code} {D : va_G} {ad : Nat → Nat} {cy : ClassId} {r : Unit} {σ' : SS} (E : CallFix p m c cX3_replacePair 7 s args TT yX3_replacePair.cls) (hr : meth.sig.returnType = none) (hlk : meth.locks = false) (g6 : SS → Int32 → Int32 → Int32 → Int32 → Int32 → Option (Unit × SS)) (hg6 : ∀ (σ : SS) (x1 : Int32) (x2 : Int32) (x3 : Int32) (x4 : Int32) (x5 : Int32), g6 σ x1 x2 x3 x4 x5 = some (r, σ') → At p l e 0 0 s m args below meth c D (cw ad cy) (cas ad) cy (none) σ' 7 6 [(0, .ref (ad 28)), (1, .int x1), (2, .int x2), (3, .int x3), (4, .int x4), (5, .int x5)] [] σ) : ∀ (σ : SS) (x1 : Int32) (x2 : Int32) (x3 : Int32) (x4 : Int32) (x5 : Int32), f_c_X3_replacePair_6 g6 σ x1 x2 x3 x4 x5 = some (r, σ') → At p l e 0 0 s m args below meth c D (cw ad cy) (cas ad) cy (none) σ' 7 6 [(0, .ref (ad 28)), (1, .int x1), (2, .int x2), (3, .int x3), (4, .int x4), (5, .int x5)] [] σ := by
  intro σ x1 x2 x3 x4 x5 hf H locs ls hG hl
  unfold f_c_X3_replacePair_6 at hf
  refine lv_iload E.1 E.2.1 dX3_replacePair_6 (lv_at hl 5 rfl) ?_
  refine lv_aload_n E.1 E.2.1 dX3_replacePair_8 rfl (lv_at hl 0 rfl) ?_
  refine fg_c_X3_49_28 E hG dX3_replacePair_9 ?_
  refine lv_icmp_ge (tgt := 78) E.1 E.2.1 dX3_replacePair_12 (by decide) (fun hc => ?_) (fun hc => ?_)
  · replace hf := (if_pos hc).symm.trans hf
    refine lv_aload_n E.1 E.2.1 dX3_replacePair_78 rfl (lv_at hl 0 rfl) ?_
    refine lv_iload E.1 E.2.1 dX3_replacePair_79 (lv_at hl 4 rfl) ?_
    refine fp_c_X3_49_28 E hG dX3_replacePair_81 (fun H locs hG => ?_)
    exact r_v E hr hlk hG hf dX3_replacePair_84
  · replace hf := (if_neg hc).symm.trans hf
    refine lv_aload_n E.1 E.2.1 dX3_replacePair_15 rfl (lv_at hl 0 rfl) ?_
    refine fg_c_X3_18_28 E hG dX3_replacePair_16 ?_
    refine lv_iload E.1 E.2.1 dX3_replacePair_19 (lv_at hl 5 rfl) ?_
    obtain ⟨hin, hf⟩ := gd_some hf
    refine al_c_36 E hG hin dX3_replacePair_21 ?_
    refine lv_istore (lv' := [(6, .int (σ.2 25 (Int32.toNatClampNeg x5))), (0, .ref (ad 28)), (1, .int x1), (2, .int x2), (3, .int x3), (4, .int x4), (5, .int x5)]) E.1 E.2.1 dX3_replacePair_22 hl (by decide) rfl (fun ls hl => ?_)
    refine lv_iload E.1 E.2.1 dX3_replacePair_24 (lv_at hl 0 rfl) ?_
    refine lv_iload_n E.1 E.2.1 dX3_replacePair_26 rfl (lv_at hl 2 rfl) ?_
    refine lv_icmp_ne (tgt := 60) E.1 E.2.1 dX3_replacePair_27 (by decide) (fun hc => ?_) (fun hc => ?_)
    · replace hf := (if_neg hc).symm.trans hf
      exact k_c_X3_replacePair_60 E hr hlk g6 hg6 _ _ _ _ _ _ _ hf _ _ _ hG (lv_sub hl [1, 2, 3, 4, 5, 6, 0] rfl)
    · replace hf := (if_pos hc).symm.trans hf
      refine lv_iload E.1 E.2.1 dX3_replacePair_30 (lv_at hl 6 rfl) ?_
      refine lv_iconst (v := (1 : Int32)) E.1 E.2.1 dX3_replacePair_32 (by decide) ?_
      refine lv_iadd E.1 E.2.1 dX3_replacePair_33 ?_
      refine lv_aload_n E.1 E.2.1 dX3_replacePair_34 rfl (lv_at hl 1 rfl) ?_
      refine fg_c_X3_49_28 E hG dX3_replacePair_35 ?_
      refine lv_icmp_ge (tgt := 60) E.1 E.2.1 dX3_replacePair_38 (by decide) (fun hc => ?_) (fun hc => ?_)
      · replace hf := (if_pos hc).symm.trans hf
        exact k_c_X3_replacePair_60 E hr hlk g6 hg6 _ _ _ _ _ _ _ hf _ _ _ hG (lv_sub hl [1, 2, 3, 4, 5, 6, 0] rfl)
      · replace hf := (if_neg hc).symm.trans hf
        refine lv_aload_n E.1 E.2.1 dX3_replacePair_41 rfl (lv_at hl 1 rfl) ?_
        refine fg_c_X3_18_28 E hG dX3_replacePair_42 ?_
        refine lv_iload E.1 E.2.1 dX3_replacePair_45 (lv_at hl 6 rfl) ?_
        refine lv_iconst (v := (1 : Int32)) E.1 E.2.1 dX3_replacePair_47 (by decide) ?_
        refine lv_iadd E.1 E.2.1 dX3_replacePair_48 ?_
        obtain ⟨hin, hf⟩ := gd_some hf
        refine al_c_36 E hG hin dX3_replacePair_49 ?_
        refine lv_iload_n E.1 E.2.1 dX3_replacePair_50 rfl (lv_at hl 3 rfl) ?_
        refine lv_icmp_ne (tgt := 60) E.1 E.2.1 dX3_replacePair_51 (by decide) (fun hc => ?_) (fun hc => ?_)
        · replace hf := (if_neg hc).symm.trans hf
          exact k_c_X3_replacePair_60 E hr hlk g6 hg6 _ _ _ _ _ _ _ hf _ _ _ hG (lv_sub hl [1, 2, 3, 4, 5, 6, 0] rfl)
        · replace hf := (if_pos hc).symm.trans hf
          refine lv_iload_n E.1 E.2.1 dX3_replacePair_54 rfl (lv_at hl 4 rfl) ?_
          refine lv_istore (lv' := [(6, .int x3), (0, .ref (ad 28)), (1, .int x1), (2, .int x2), (3, .int x3), (4, .int x4), (5, .int x5)]) E.1 E.2.1 dX3_replacePair_55 hl (by decide) rfl (fun ls hl => ?_)
          refine lv_iinc (v := (x5 + (1 : Int32))) (lv' := [(5, .int (x5 + (1 : Int32))), (6, .int x3), (0, .ref (ad 28)), (1, .int x1), (2, .int x2), (3, .int x3), (4, .int x4)]) E.1 E.2.1 dX3_replacePair_57 hl (k := 6) rfl rfl (by decide) rfl (fun ls hl => ?_)
          exact k_c_X3_replacePair_60 E hr hlk g6 hg6 _ _ _ _ _ _ _ hf _ _ _ hG (lv_sub hl [2, 3, 4, 5, 6, 0, 1] rfl)

set_option maxHeartbeats 4000000 in
set_option maxRecDepth 100000 in
theorem c_c_X3_replacePair {l : Launch} {D : va_G} {ad : Nat → Nat} {cy : ClassId} {σ : SS} {x1 : Int32} {x2 : Int32} {x3 : Int32} {r : Unit} {σ' : SS} (hf : f_c_X3_replacePair σ x1 x2 x3 = some (r, σ')) : Ctr l D (cw ad cy) (cas ad) cy yX3_replacePair cX3_replacePair 7 none 0 0 [.ref (ad 28), .int x1, .int x2, .int x3] σ (none) σ' := by
  refine Ctr.of (cw_as ad cy) rfl (Nat.le_of_ble_eq_true rfl) (fun p e s m args below meth c ls E hr hlk hl hG => ?_)
  have hl : lv_has ls 7 [(0, .ref (ad 28)), (1, .int x1), (2, .int x2), (3, .int x3)] := hl
  unfold f_c_X3_replacePair at hf
  refine lv_iconst (v := (0 : Int32)) E.1 E.2.1 dX3_replacePair_0 (by decide) ?_
  refine lv_istore (lv' := [(4, .int (0 : Int32)), (0, .ref (ad 28)), (1, .int x1), (2, .int x2), (3, .int x3)]) E.1 E.2.1 dX3_replacePair_1 hl (by decide) rfl (fun ls hl => ?_)
  refine lv_iconst (v := (0 : Int32)) E.1 E.2.1 dX3_replacePair_3 (by decide) ?_
  refine lv_istore (lv' := [(5, .int (0 : Int32)), (4, .int (0 : Int32)), (0, .ref (ad 28)), (1, .int x1), (2, .int x2), (3, .int x3)]) E.1 E.2.1 dX3_replacePair_4 hl (by decide) rfl (fun ls hl => ?_)
  exact L5_at (P := fun σ x1 x2 x3 x4 x5 => At p l e 0 0 s m args below meth c D (cw ad cy) (cas ad) cy (none) σ' 7 6 [(0, .ref (ad 28)), (1, .int x1), (2, .int x2), (3, .int x3), (4, .int x4), (5, .int x5)] [] σ) (fun g hg => k_c_X3_replacePair_6 E hr hlk g hg) FUEL _ _ _ _ _ _ hf _ _ _ hG (lv_sub hl [2, 3, 4, 5, 1, 0] rfl)

set_option maxHeartbeats 4000000 in
set_option maxRecDepth 100000 in
theorem c_c_X3_addRule {l : Launch} {D : va_G} {ad : Nat → Nat} {cy : ClassId} {σ : SS} {r : Int32} {σ' : SS} (hf : f_c_X3_addRule σ = some (r, σ')) : Ctr l D (cw ad cy) (cas ad) cy yX3_addRule cX3_addRule 2 (some FieldType.boolean) 2 48 [.ref (ad 28)] σ (some (.int r)) σ' := by
  refine Ctr.of (cw_as ad cy) rfl (Nat.le_of_ble_eq_true rfl) (fun p e s m args below meth c ls E hr hlk hl hG => ?_)
  have hl : lv_has ls 2 [(0, .ref (ad 28))] := hl
  unfold f_c_X3_addRule at hf
  refine lv_aload_n E.1 E.2.1 dX3_addRule_0 rfl (lv_at hl 0 rfl) ?_
  refine fg_c_X3_12_28 E hG dX3_addRule_1 ?_
  refine lv_aload_n E.1 E.2.1 dX3_addRule_4 rfl (lv_at hl 0 rfl) ?_
  refine fg_c_X3_18_28 E hG dX3_addRule_5 ?_
  refine lv_aload_n E.1 E.2.1 dX3_addRule_8 rfl (lv_at hl 0 rfl) ?_
  refine fg_c_X3_49_28 E hG dX3_addRule_9 ?_
  obtain ⟨r12, σ12, hcl, hf⟩ := bd_some hf
  refine cl_V (rest := []) (st1 := []) (As := [.ref (ad 36), .int (σ.1 14)]) E hG (c_c_X5_tally hcl) Wd_603 mi_X5_tally ⟨Nat.le_of_ble_eq_true rfl, Nat.le_of_ble_eq_true rfl, Nat.zero_le _, Nat.zero_le _⟩ 7 29 rfl rfl rfl hl.1 rfl (Nat.le_of_ble_eq_true rfl) dX3_addRule_12 rfl (fun H locs hG => ?_)
  refine lv_aload_n E.1 E.2.1 dX3_addRule_15 rfl (lv_at hl 0 rfl) ?_
  refine fg_c_X3_12_28 E hG dX3_addRule_16 ?_
  obtain ⟨r19, σ19, hcl, hf⟩ := bd_some hf
  refine cl_V (rest := []) (st1 := [.int r19]) (As := []) E hG (c_c_X5_best hcl) Wd_612 mi_X5_best ⟨Nat.le_of_ble_eq_true rfl, Nat.le_of_ble_eq_true rfl, Nat.zero_le _, Nat.zero_le _⟩ 7 29 rfl rfl rfl hl.1 rfl (Nat.le_of_ble_eq_true rfl) dX3_addRule_19 rfl (fun H locs hG => ?_)
  refine lv_istore_n (lv' := [(1, .int r19), (0, .ref (ad 28))]) E.1 E.2.1 dX3_addRule_22 rfl hl (by decide) rfl (fun ls hl => ?_)
  refine lv_iload_n E.1 E.2.1 dX3_addRule_23 rfl (lv_at hl 0 rfl) ?_
  refine lv_bipush (v := (-2 : Int32)) E.1 E.2.1 dX3_addRule_24 (by decide) ?_
  refine lv_icmp_ne (tgt := 31) E.1 E.2.1 dX3_addRule_26 (by decide) (fun hc => ?_) (fun hc => ?_)
  · replace hf := (if_neg hc).symm.trans hf
    refine lv_aload_n E.1 E.2.1 dX3_addRule_31 rfl (lv_at hl 1 rfl) ?_
    refine fg_c_X3_22_28 E hG dX3_addRule_32 ?_
    refine lv_aload_n E.1 E.2.1 dX3_addRule_35 rfl (lv_at hl 1 rfl) ?_
    refine fg_c_X3_52_28 E hG dX3_addRule_36 ?_
    refine lv_aload_n E.1 E.2.1 dX3_addRule_39 rfl (lv_at hl 1 rfl) ?_
    refine fg_c_X3_12_28 E hG dX3_addRule_40 ?_
    refine fg_c_X3_67_29 E hG dX3_addRule_43 ?_
    refine lv_iload_n E.1 E.2.1 dX3_addRule_46 rfl (lv_at hl 0 rfl) ?_
    obtain ⟨hin, hf⟩ := gd_some hf
    refine al_c_32 E hG hin dX3_addRule_47 ?_
    obtain ⟨hin, hf⟩ := gd_some hf
    refine as_c_37 E hG hin dX3_addRule_48 (fun H locs hG => ?_)
    refine lv_aload_n E.1 E.2.1 dX3_addRule_49 rfl (lv_at hl 1 rfl) ?_
    refine fg_c_X3_25_28 E hG dX3_addRule_50 ?_
    refine lv_aload_n E.1 E.2.1 dX3_addRule_53 rfl (lv_at hl 1 rfl) ?_
    refine fg_c_X3_52_28 E hG dX3_addRule_54 ?_
    refine lv_aload_n E.1 E.2.1 dX3_addRule_57 rfl (lv_at hl 1 rfl) ?_
    refine fg_c_X3_12_28 E hG dX3_addRule_58 ?_
    refine fg_c_X3_68_29 E hG dX3_addRule_61 ?_
    refine lv_iload_n E.1 E.2.1 dX3_addRule_64 rfl (lv_at hl 0 rfl) ?_
    obtain ⟨hin, hf⟩ := gd_some hf
    refine al_c_33 E hG hin dX3_addRule_65 ?_
    obtain ⟨hin, hf⟩ := gd_some hf
    refine as_c_38 E hG hin dX3_addRule_66 (fun H locs hG => ?_)
    refine lv_aload_n E.1 E.2.1 dX3_addRule_67 rfl (lv_at hl 1 rfl) ?_
    refine lv_aload_n E.1 E.2.1 dX3_addRule_68 rfl (lv_at hl 1 rfl) ?_
    refine fg_c_X3_22_28 E hG dX3_addRule_69 ?_
    refine lv_aload_n E.1 E.2.1 dX3_addRule_72 rfl (lv_at hl 1 rfl) ?_
    refine fg_c_X3_52_28 E hG dX3_addRule_73 ?_
    obtain ⟨hin, hf⟩ := gd_some hf
    refine al_c_37 E hG hin dX3_addRule_76 ?_
    refine lv_aload_n E.1 E.2.1 dX3_addRule_77 rfl (lv_at hl 1 rfl) ?_
    refine fg_c_X3_25_28 E hG dX3_addRule_78 ?_
    refine lv_aload_n E.1 E.2.1 dX3_addRule_81 rfl (lv_at hl 1 rfl) ?_
    refine fg_c_X3_52_28 E hG dX3_addRule_82 ?_
    obtain ⟨hin, hf⟩ := gd_some hf
    refine al_c_38 E hG hin dX3_addRule_85 ?_
    refine lv_bipush (v := (16 : Int32)) E.1 E.2.1 dX3_addRule_86 (by decide) ?_
    refine lv_aload_n E.1 E.2.1 dX3_addRule_88 rfl (lv_at hl 1 rfl) ?_
    refine fg_c_X3_52_28 E hG dX3_addRule_89 ?_
    refine lv_iadd E.1 E.2.1 dX3_addRule_92 ?_
    obtain ⟨r93, σ93, hcl, hf⟩ := bd_some hf
    refine cl_V (rest := []) (st1 := []) (As := [.int ((putA (putA σ19 26 (Int32.toNatClampNeg (σ19.1 15)) (σ19.2 21 (Int32.toNatClampNeg r19))) 27 (Int32.toNatClampNeg ((putA σ19 26 (Int32.toNatClampNeg (σ19.1 15)) (σ19.2 21 (Int32.toNatClampNeg r19))).1 15)) ((putA σ19 26 (Int32.toNatClampNeg (σ19.1 15)) (σ19.2 21 (Int32.toNatClampNeg r19))).2 22 (Int32.toNatClampNeg r19))).2 26 (Int32.toNatClampNeg ((putA (putA σ19 26 (Int32.toNatClampNeg (σ19.1 15)) (σ19.2 21 (Int32.toNatClampNeg r19))) 27 (Int32.toNatClampNeg ((putA σ19 26 (Int32.toNatClampNeg (σ19.1 15)) (σ19.2 21 (Int32.toNatClampNeg r19))).1 15)) ((putA σ19 26 (Int32.toNatClampNeg (σ19.1 15)) (σ19.2 21 (Int32.toNatClampNeg r19))).2 22 (Int32.toNatClampNeg r19))).1 15))), .int ((putA (putA σ19 26 (Int32.toNatClampNeg (σ19.1 15)) (σ19.2 21 (Int32.toNatClampNeg r19))) 27 (Int32.toNatClampNeg ((putA σ19 26 (Int32.toNatClampNeg (σ19.1 15)) (σ19.2 21 (Int32.toNatClampNeg r19))).1 15)) ((putA σ19 26 (Int32.toNatClampNeg (σ19.1 15)) (σ19.2 21 (Int32.toNatClampNeg r19))).2 22 (Int32.toNatClampNeg r19))).2 27 (Int32.toNatClampNeg ((putA (putA σ19 26 (Int32.toNatClampNeg (σ19.1 15)) (σ19.2 21 (Int32.toNatClampNeg r19))) 27 (Int32.toNatClampNeg ((putA σ19 26 (Int32.toNatClampNeg (σ19.1 15)) (σ19.2 21 (Int32.toNatClampNeg r19))).1 15)) ((putA σ19 26 (Int32.toNatClampNeg (σ19.1 15)) (σ19.2 21 (Int32.toNatClampNeg r19))).2 22 (Int32.toNatClampNeg r19))).1 15))), .int ((16 : Int32) + ((putA (putA σ19 26 (Int32.toNatClampNeg (σ19.1 15)) (σ19.2 21 (Int32.toNatClampNeg r19))) 27 (Int32.toNatClampNeg ((putA σ19 26 (Int32.toNatClampNeg (σ19.1 15)) (σ19.2 21 (Int32.toNatClampNeg r19))).1 15)) ((putA σ19 26 (Int32.toNatClampNeg (σ19.1 15)) (σ19.2 21 (Int32.toNatClampNeg r19))).2 22 (Int32.toNatClampNeg r19))).1 15))]) E hG (c_c_X3_replacePair hcl) Wd_620 mi_X3_replacePair ⟨Nat.le_of_ble_eq_true rfl, Nat.le_of_ble_eq_true rfl, Nat.zero_le _, Nat.zero_le _⟩ 5 28 rfl rfl rfl hl.1 rfl (Nat.le_of_ble_eq_true rfl) dX3_addRule_93 rfl (fun H locs hG => ?_)
    refine lv_aload_n E.1 E.2.1 dX3_addRule_96 rfl (lv_at hl 1 rfl) ?_
    refine lv_dup E.1 E.2.1 dX3_addRule_97 rfl ?_
    refine fg_c_X3_52_28 E hG dX3_addRule_98 ?_
    refine lv_iconst (v := (1 : Int32)) E.1 E.2.1 dX3_addRule_101 (by decide) ?_
    refine lv_iadd E.1 E.2.1 dX3_addRule_102 ?_
    refine fp_c_X3_52_28 E hG dX3_addRule_103 (fun H locs hG => ?_)
    refine lv_iconst (v := (1 : Int32)) E.1 E.2.1 dX3_addRule_106 (by decide) ?_
    exact r_z E hr hlk hG hf (by decide +kernel) dX3_addRule_107
  · replace hf := (if_pos hc).symm.trans hf
    refine lv_iconst (v := (0 : Int32)) E.1 E.2.1 dX3_addRule_29 (by decide) ?_
    exact r_z E hr hlk hG hf (by decide +kernel) dX3_addRule_30

set_option maxHeartbeats 4000000 in
set_option maxRecDepth 100000 in
theorem k_c_X3_follow_54 {p : Program} {l : Launch} {e : Env} {s : State} {m : MethodId} {args : Array Value} {below : List Frame} {meth : Method} {c : Code} {D : va_G} {ad : Nat → Nat} {cy : ClassId} {r : Unit} {σ' : SS} (E : CallFix p m c cX3_follow 4 s args TT yX3_follow.cls) (hr : meth.sig.returnType = none) (hlk : meth.locks = false) (g54 : SS → Int32 → Int32 → Option (Unit × SS)) (hg54 : ∀ (σ : SS) (x2 : Int32) (x3 : Int32), g54 σ x2 x3 = some (r, σ') → At p l e 3 69 s m args below meth c D (cw ad cy) (cas ad) cy (none) σ' 4 54 [(0, .ref (ad 28)), (2, .int x2), (3, .int x3)] [] σ) : ∀ (σ : SS) (x2 : Int32) (x3 : Int32), f_c_X3_follow_54 g54 σ x2 x3 = some (r, σ') → At p l e 3 69 s m args below meth c D (cw ad cy) (cas ad) cy (none) σ' 4 54 [(0, .ref (ad 28)), (2, .int x2), (3, .int x3)] [] σ := by
  intro σ x2 x3 hf H locs ls hG hl
  unfold f_c_X3_follow_54 at hf
  refine lv_iload_n E.1 E.2.1 dX3_follow_54 rfl (lv_at hl 1 rfl) ?_
  refine lv_if_eq (tgt := 76) E.1 E.2.1 dX3_follow_55 (by decide) (fun hc => ?_) (fun hc => ?_)
  · replace hf := (if_pos hc).symm.trans hf
    exact r_v E hr hlk hG hf dX3_follow_76
  · replace hf := (if_neg hc).symm.trans hf
    refine lv_iload_n E.1 E.2.1 dX3_follow_58 rfl (lv_at hl 2 rfl) ?_
    refine lv_sipush (v := (200 : Int32)) E.1 E.2.1 dX3_follow_59 (by decide) ?_
    refine lv_icmp_ge (tgt := 76) E.1 E.2.1 dX3_follow_62 (by decide) (fun hc => ?_) (fun hc => ?_)
    · replace hf := (if_pos hc).symm.trans hf
      exact r_v E hr hlk hG hf dX3_follow_76
    · replace hf := (if_neg hc).symm.trans hf
      refine lv_aload_n E.1 E.2.1 dX3_follow_65 rfl (lv_at hl 0 rfl) ?_
      obtain ⟨r66, σ66, hcl, hf⟩ := bd_some hf
      refine cl_V (rest := []) (st1 := [.int r66]) (As := []) E hG (c_c_X3_addRule hcl) Wd_599 mi_X3_addRule ⟨Nat.le_of_ble_eq_true rfl, Nat.le_of_ble_eq_true rfl, Nat.zero_le _, Nat.zero_le _⟩ 5 28 rfl rfl rfl hl.1 rfl (Nat.le_of_ble_eq_true rfl) dX3_follow_66 rfl (fun H locs hG => ?_)
      refine lv_istore_n (lv' := [(2, .int r66), (0, .ref (ad 28)), (3, .int x3)]) E.1 E.2.1 dX3_follow_69 rfl hl (by decide) rfl (fun ls hl => ?_)
      refine lv_iinc (v := (x3 + (1 : Int32))) (lv' := [(3, .int (x3 + (1 : Int32))), (2, .int r66), (0, .ref (ad 28))]) E.1 E.2.1 dX3_follow_70 hl (k := 2) rfl rfl (by decide) rfl (fun ls hl => ?_)
      refine lv_goto (tgt := 54) E.1 E.2.1 dX3_follow_73 (by decide) ?_
      exact hg54 _ _ _ hf _ _ _ hG (lv_sub hl [2, 1, 0] rfl)

set_option maxHeartbeats 4000000 in
set_option maxRecDepth 100000 in
theorem c_c_X3_follow {l : Launch} {D : va_G} {ad : Nat → Nat} {cy : ClassId} {σ : SS} {r : Unit} {σ' : SS} (hf : f_c_X3_follow σ = some (r, σ')) : Ctr l D (cw ad cy) (cas ad) cy yX3_follow cX3_follow 4 none 3 69 [.ref (ad 28), .ref (ad 1)] σ (none) σ' := by
  refine Ctr.of (cw_as ad cy) rfl (Nat.le_of_ble_eq_true rfl) (fun p e s m args below meth c ls E hr hlk hl hG => ?_)
  have hl : lv_has ls 4 [(0, .ref (ad 28)), (1, .ref (ad 1))] := hl
  unfold f_c_X3_follow at hf
  refine lv_aload_n E.1 E.2.1 dX3_follow_0 rfl (lv_at hl 0 rfl) ?_
  refine fg_c_X3_28_28 E hG dX3_follow_1 ?_
  refine lv_aload_n E.1 E.2.1 dX3_follow_4 rfl (lv_at hl 1 rfl) ?_
  refine fg_c_X3_32_1 E hG dX3_follow_5 ?_
  refine lv_icmp_ne (tgt := 12) E.1 E.2.1 dX3_follow_8 (by decide) (fun hc => ?_) (fun hc => ?_)
  · replace hf := (if_neg hc).symm.trans hf
    refine lv_aload_n E.1 E.2.1 dX3_follow_12 rfl (lv_at hl 0 rfl) ?_
    refine lv_aload_n E.1 E.2.1 dX3_follow_13 rfl (lv_at hl 1 rfl) ?_
    refine fg_c_X3_32_1 E hG dX3_follow_14 ?_
    refine fp_c_X3_28_28 E hG dX3_follow_17 (fun H locs hG => ?_)
    refine lv_aload_n E.1 E.2.1 dX3_follow_20 rfl (lv_at hl 1 rfl) ?_
    refine fg_c_X3_37_1 E hG dX3_follow_21 ?_
    refine lv_iconst (v := (0 : Int32)) E.1 E.2.1 dX3_follow_24 (by decide) ?_
    refine lv_aload_n E.1 E.2.1 dX3_follow_25 rfl (lv_at hl 0 rfl) ?_
    refine fg_c_X3_18_28 E hG dX3_follow_26 ?_
    refine lv_iconst (v := (0 : Int32)) E.1 E.2.1 dX3_follow_29 (by decide) ?_
    refine lv_aload_n E.1 E.2.1 dX3_follow_30 rfl (lv_at hl 1 rfl) ?_
    refine fg_c_X3_40_1 E hG dX3_follow_31 ?_
    obtain ⟨hn1, hn2, hf⟩ := gc_some hf
    refine g_cpy (σ' := (putR (putI σ 16 (σ.1 1)) 25 (va_cpy ((putI σ 16 (σ.1 1)).2 0) ((putI σ 16 (σ.1 1)).2 25) 0 0 (Int32.toNatClampNeg ((putI σ 16 (σ.1 1)).1 0))))) E hG 2 36 rfl rfl hn1 hn2 (Nat.le_trans hn2 (Nat.le_of_ble_eq_true rfl)) rfl Wd_596 Wd_598 Wd_597 Wd_64 hl.1 (by exact Nat.le_of_ble_eq_true rfl) (by first | decide | exact Nat.le_of_ble_eq_true rfl) rfl dX3_follow_34 (fun H locs hG => ?_)
    refine lv_aload_n E.1 E.2.1 dX3_follow_37 rfl (lv_at hl 0 rfl) ?_
    refine lv_aload_n E.1 E.2.1 dX3_follow_38 rfl (lv_at hl 1 rfl) ?_
    refine fg_c_X3_40_1 E hG dX3_follow_39 ?_
    refine fp_c_X3_49_28 E hG dX3_follow_42 (fun H locs hG => ?_)
    refine lv_aload_n E.1 E.2.1 dX3_follow_45 rfl (lv_at hl 0 rfl) ?_
    refine lv_iconst (v := (0 : Int32)) E.1 E.2.1 dX3_follow_46 (by decide) ?_
    refine fp_c_X3_52_28 E hG dX3_follow_47 (fun H locs hG => ?_)
    refine lv_iconst (v := (1 : Int32)) E.1 E.2.1 dX3_follow_50 (by decide) ?_
    refine lv_istore_n (lv' := [(2, .int (1 : Int32)), (0, .ref (ad 28)), (1, .ref (ad 1))]) E.1 E.2.1 dX3_follow_51 rfl hl (by decide) rfl (fun ls hl => ?_)
    refine lv_iconst (v := (0 : Int32)) E.1 E.2.1 dX3_follow_52 (by decide) ?_
    refine lv_istore_n (lv' := [(3, .int (0 : Int32)), (2, .int (1 : Int32)), (0, .ref (ad 28)), (1, .ref (ad 1))]) E.1 E.2.1 dX3_follow_53 rfl hl (by decide) rfl (fun ls hl => ?_)
    exact L2_at (P := fun σ x2 x3 => At p l e 3 69 s m args below meth c D (cw ad cy) (cas ad) cy (none) σ' 4 54 [(0, .ref (ad 28)), (2, .int x2), (3, .int x3)] [] σ) (fun g hg => k_c_X3_follow_54 E hr hlk g hg) FUEL _ _ _ hf _ _ _ hG (lv_sub hl [2, 1, 0] rfl)
  · replace hf := (if_pos hc).symm.trans hf
    exact r_v E hr hlk hG hf dX3_follow_11

set_option maxHeartbeats 4000000 in
set_option maxRecDepth 100000 in
theorem c_c_X11_grammar {l : Launch} {D : va_G} {ad : Nat → Nat} {cy : ClassId} {σ : SS} {x1 : Int32} {r : Int32} {σ' : SS} (hf : f_c_X11_grammar σ x1 = some (r, σ')) : Ctr l D (cw ad cy) (cas ad) cy yX11_grammar cX11_grammar 2 (some FieldType.int) 4 92 [.ref (ad 0), .int x1] σ (some (.int r)) σ' := by
  refine Ctr.of (cw_as ad cy) rfl (Nat.le_of_ble_eq_true rfl) (fun p e s m args below meth c ls E hr hlk hl hG => ?_)
  have hl : lv_has ls 2 [(0, .ref (ad 0)), (1, .int x1)] := hl
  unfold f_c_X11_grammar at hf
  refine lv_iload_n E.1 E.2.1 dX11_grammar_0 rfl (lv_at hl 1 rfl) ?_
  refine lv_iconst (v := (0 : Int32)) E.1 E.2.1 dX11_grammar_1 (by decide) ?_
  refine lv_iconst (v := (2 : Int32)) E.1 E.2.1 dX11_grammar_2 (by decide) ?_
  obtain ⟨r3, σ3, hcl, hf⟩ := bd_some hf
  refine cl_S (rest := []) (st1 := [.int r3]) (As := [.int x1, .int (0 : Int32), .int (2 : Int32)]) E hG (c_c_X11_within hcl) Wd_365 mi_X11_within ⟨Nat.le_of_ble_eq_true rfl, Nat.le_of_ble_eq_true rfl, Nat.zero_le _, Nat.zero_le _⟩ rfl hl.1 rfl (Nat.le_of_ble_eq_true rfl) dX11_grammar_3 rfl (fun H locs hG => ?_)
  refine lv_if_ne (tgt := 11) E.1 E.2.1 dX11_grammar_6 (by decide) (fun hc => ?_) (fun hc => ?_)
  · replace hf := (if_neg hc).symm.trans hf
    refine lv_aload_n E.1 E.2.1 dX11_grammar_11 rfl (lv_at hl 0 rfl) ?_
    refine fg_c_X11_61_0 E hG dX11_grammar_12 ?_
    refine lv_aload_n E.1 E.2.1 dX11_grammar_15 rfl (lv_at hl 0 rfl) ?_
    refine fg_c_X11_10_0 E hG dX11_grammar_16 ?_
    obtain ⟨r19, σ19, hcl, hf⟩ := bd_some hf
    refine cl_V (rest := []) (st1 := []) (As := [.ref (ad 1)]) E hG (c_c_X3_follow hcl) Wd_592 mi_X3_follow ⟨Nat.le_of_ble_eq_true rfl, Nat.le_of_ble_eq_true rfl, Nat.zero_le _, Nat.zero_le _⟩ 5 28 rfl rfl rfl hl.1 rfl (Nat.le_of_ble_eq_true rfl) dX11_grammar_19 rfl (fun H locs hG => ?_)
    refine lv_iload_n E.1 E.2.1 dX11_grammar_22 rfl (lv_at hl 1 rfl) ?_
    refine lv_if_ne (tgt := 44) E.1 E.2.1 dX11_grammar_23 (by decide) (fun hc => ?_) (fun hc => ?_)
    · replace hf := (if_neg hc).symm.trans hf
      refine lv_iload_n E.1 E.2.1 dX11_grammar_44 rfl (lv_at hl 1 rfl) ?_
      refine lv_iconst (v := (1 : Int32)) E.1 E.2.1 dX11_grammar_45 (by decide) ?_
      refine lv_icmp_ne (tgt := 59) E.1 E.2.1 dX11_grammar_46 (by decide) (fun hc => ?_) (fun hc => ?_)
      · replace hf := (if_neg hc).symm.trans hf
        refine lv_aload_n E.1 E.2.1 dX11_grammar_59 rfl (lv_at hl 0 rfl) ?_
        refine fg_c_X11_61_0 E hG dX11_grammar_60 ?_
        refine fg_c_X11_188_28 E hG dX11_grammar_63 ?_
        exact r_i E hr hlk hG hf dX11_grammar_66
      · replace hf := (if_pos hc).symm.trans hf
        refine lv_aload_n E.1 E.2.1 dX11_grammar_49 rfl (lv_at hl 0 rfl) ?_
        refine fg_c_X11_61_0 E hG dX11_grammar_50 ?_
        refine fg_c_X11_191_28 E hG dX11_grammar_53 ?_
        refine lv_goto (tgt := 66) E.1 E.2.1 dX11_grammar_56 (by decide) ?_
        exact r_i E hr hlk hG hf dX11_grammar_66
    · replace hf := (if_pos hc).symm.trans hf
      refine lv_aload_n E.1 E.2.1 dX11_grammar_26 rfl (lv_at hl 0 rfl) ?_
      refine fg_c_X11_61_0 E hG dX11_grammar_27 ?_
      refine fg_c_X11_188_28 E hG dX11_grammar_30 ?_
      refine lv_iconst (v := (2 : Int32)) E.1 E.2.1 dX11_grammar_33 (by decide) ?_
      refine lv_aload_n E.1 E.2.1 dX11_grammar_34 rfl (lv_at hl 0 rfl) ?_
      refine fg_c_X11_61_0 E hG dX11_grammar_35 ?_
      refine fg_c_X11_191_28 E hG dX11_grammar_38 ?_
      refine lv_imul E.1 E.2.1 dX11_grammar_41 ?_
      refine lv_iadd E.1 E.2.1 dX11_grammar_42 ?_
      exact r_i E hr hlk hG hf dX11_grammar_43
  · replace hf := (if_pos hc).symm.trans hf
    refine lv_iconst (v := (-1 : Int32)) E.1 E.2.1 dX11_grammar_9 (by decide) ?_
    exact r_i E hr hlk hG hf dX11_grammar_10

set_option maxHeartbeats 4000000 in
set_option maxRecDepth 100000 in
theorem c_c_X11_rule {l : Launch} {D : va_G} {ad : Nat → Nat} {cy : ClassId} {σ : SS} {x1 : Int32} {x2 : Int32} {r : Int32} {σ' : SS} (hf : f_c_X11_rule σ x1 x2 = some (r, σ')) : Ctr l D (cw ad cy) (cas ad) cy yX11_rule cX11_rule 3 (some FieldType.int) 4 92 [.ref (ad 0), .int x1, .int x2] σ (some (.int r)) σ' := by
  refine Ctr.of (cw_as ad cy) rfl (Nat.le_of_ble_eq_true rfl) (fun p e s m args below meth c ls E hr hlk hl hG => ?_)
  have hl : lv_has ls 3 [(0, .ref (ad 0)), (1, .int x1), (2, .int x2)] := hl
  unfold f_c_X11_rule at hf
  refine lv_aload_n E.1 E.2.1 dX11_rule_0 rfl (lv_at hl 0 rfl) ?_
  refine fg_c_X11_61_0 E hG dX11_rule_1 ?_
  refine lv_aload_n E.1 E.2.1 dX11_rule_4 rfl (lv_at hl 0 rfl) ?_
  refine fg_c_X11_10_0 E hG dX11_rule_5 ?_
  obtain ⟨r8, σ8, hcl, hf⟩ := bd_some hf
  refine cl_V (rest := []) (st1 := []) (As := [.ref (ad 1)]) E hG (c_c_X3_follow hcl) Wd_592 mi_X3_follow ⟨Nat.le_of_ble_eq_true rfl, Nat.le_of_ble_eq_true rfl, Nat.zero_le _, Nat.zero_le _⟩ 5 28 rfl rfl rfl hl.1 rfl (Nat.le_of_ble_eq_true rfl) dX11_rule_8 rfl (fun H locs hG => ?_)
  refine lv_iload_n E.1 E.2.1 dX11_rule_11 rfl (lv_at hl 1 rfl) ?_
  refine lv_bipush (v := (16 : Int32)) E.1 E.2.1 dX11_rule_12 (by decide) ?_
  refine lv_bipush (v := (16 : Int32)) E.1 E.2.1 dX11_rule_14 (by decide) ?_
  refine lv_aload_n E.1 E.2.1 dX11_rule_16 rfl (lv_at hl 0 rfl) ?_
  refine fg_c_X11_61_0 E hG dX11_rule_17 ?_
  refine fg_c_X11_191_28 E hG dX11_rule_20 ?_
  refine lv_iadd E.1 E.2.1 dX11_rule_23 ?_
  refine lv_iconst (v := (1 : Int32)) E.1 E.2.1 dX11_rule_24 (by decide) ?_
  refine lv_isub E.1 E.2.1 dX11_rule_25 ?_
  obtain ⟨r26, σ26, hcl, hf⟩ := bd_some hf
  refine cl_S (rest := []) (st1 := [.int r26]) (As := [.int x1, .int (16 : Int32), .int (((16 : Int32) + (σ8.1 15)) - (1 : Int32))]) E hG (c_c_X11_within hcl) Wd_365 mi_X11_within ⟨Nat.le_of_ble_eq_true rfl, Nat.le_of_ble_eq_true rfl, Nat.zero_le _, Nat.zero_le _⟩ rfl hl.1 rfl (Nat.le_of_ble_eq_true rfl) dX11_rule_26 rfl (fun H locs hG => ?_)
  refine lv_if_eq (tgt := 39) E.1 E.2.1 dX11_rule_29 (by decide) (fun hc => ?_) (fun hc => ?_)
  · replace hf := (if_pos hc).symm.trans hf
    refine lv_iconst (v := (-1 : Int32)) E.1 E.2.1 dX11_rule_39 (by decide) ?_
    exact r_i E hr hlk hG hf dX11_rule_40
  · replace hf := (if_neg hc).symm.trans hf
    refine lv_iload_n E.1 E.2.1 dX11_rule_32 rfl (lv_at hl 2 rfl) ?_
    obtain ⟨r33, σ33, hcl, hf⟩ := bd_some hf
    refine cl_S (rest := []) (st1 := [.int r33]) (As := [.int x2]) E hG (c_c_X11_isSide hcl) Wd_432 mi_X11_isSide ⟨Nat.le_of_ble_eq_true rfl, Nat.le_of_ble_eq_true rfl, Nat.zero_le _, Nat.zero_le _⟩ rfl hl.1 rfl (Nat.le_of_ble_eq_true rfl) dX11_rule_33 rfl (fun H locs hG => ?_)
    refine lv_if_ne (tgt := 41) E.1 E.2.1 dX11_rule_36 (by decide) (fun hc => ?_) (fun hc => ?_)
    · replace hf := (if_neg hc).symm.trans hf
      refine lv_iload_n E.1 E.2.1 dX11_rule_41 rfl (lv_at hl 2 rfl) ?_
      refine lv_if_ne (tgt := 60) E.1 E.2.1 dX11_rule_42 (by decide) (fun hc => ?_) (fun hc => ?_)
      · replace hf := (if_neg hc).symm.trans hf
        refine lv_aload_n E.1 E.2.1 dX11_rule_60 rfl (lv_at hl 0 rfl) ?_
        refine fg_c_X11_61_0 E hG dX11_rule_61 ?_
        refine fg_c_X11_195_28 E hG dX11_rule_64 ?_
        refine lv_iload_n E.1 E.2.1 dX11_rule_67 rfl (lv_at hl 1 rfl) ?_
        refine lv_bipush (v := (16 : Int32)) E.1 E.2.1 dX11_rule_68 (by decide) ?_
        refine lv_isub E.1 E.2.1 dX11_rule_70 ?_
        obtain ⟨hin, hf⟩ := gd_some hf
        refine al_c_38 E hG hin dX11_rule_71 ?_
        exact r_i E hr hlk hG hf dX11_rule_72
      · replace hf := (if_pos hc).symm.trans hf
        refine lv_aload_n E.1 E.2.1 dX11_rule_45 rfl (lv_at hl 0 rfl) ?_
        refine fg_c_X11_61_0 E hG dX11_rule_46 ?_
        refine fg_c_X11_192_28 E hG dX11_rule_49 ?_
        refine lv_iload_n E.1 E.2.1 dX11_rule_52 rfl (lv_at hl 1 rfl) ?_
        refine lv_bipush (v := (16 : Int32)) E.1 E.2.1 dX11_rule_53 (by decide) ?_
        refine lv_isub E.1 E.2.1 dX11_rule_55 ?_
        obtain ⟨hin, hf⟩ := gd_some hf
        refine al_c_37 E hG hin dX11_rule_56 ?_
        refine lv_goto (tgt := 72) E.1 E.2.1 dX11_rule_57 (by decide) ?_
        exact r_i E hr hlk hG hf dX11_rule_72
    · replace hf := (if_pos hc).symm.trans hf
      refine lv_iconst (v := (-1 : Int32)) E.1 E.2.1 dX11_rule_39 (by decide) ?_
      exact r_i E hr hlk hG hf dX11_rule_40

set_option maxHeartbeats 4000000 in
set_option maxRecDepth 100000 in
theorem c_c_X11_symbol {l : Launch} {D : va_G} {ad : Nat → Nat} {cy : ClassId} {σ : SS} {x1 : Int32} {r : Int32} {σ' : SS} (hf : f_c_X11_symbol σ x1 = some (r, σ')) : Ctr l D (cw ad cy) (cas ad) cy yX11_symbol cX11_symbol 2 (some FieldType.int) 4 92 [.ref (ad 0), .int x1] σ (some (.int r)) σ' := by
  refine Ctr.of (cw_as ad cy) rfl (Nat.le_of_ble_eq_true rfl) (fun p e s m args below meth c ls E hr hlk hl hG => ?_)
  have hl : lv_has ls 2 [(0, .ref (ad 0)), (1, .int x1)] := hl
  unfold f_c_X11_symbol at hf
  refine lv_aload_n E.1 E.2.1 dX11_symbol_0 rfl (lv_at hl 0 rfl) ?_
  refine fg_c_X11_61_0 E hG dX11_symbol_1 ?_
  refine lv_aload_n E.1 E.2.1 dX11_symbol_4 rfl (lv_at hl 0 rfl) ?_
  refine fg_c_X11_10_0 E hG dX11_symbol_5 ?_
  obtain ⟨r8, σ8, hcl, hf⟩ := bd_some hf
  refine cl_V (rest := []) (st1 := []) (As := [.ref (ad 1)]) E hG (c_c_X3_follow hcl) Wd_592 mi_X3_follow ⟨Nat.le_of_ble_eq_true rfl, Nat.le_of_ble_eq_true rfl, Nat.zero_le _, Nat.zero_le _⟩ 5 28 rfl rfl rfl hl.1 rfl (Nat.le_of_ble_eq_true rfl) dX11_symbol_8 rfl (fun H locs hG => ?_)
  refine lv_iload_n E.1 E.2.1 dX11_symbol_11 rfl (lv_at hl 1 rfl) ?_
  refine lv_iconst (v := (0 : Int32)) E.1 E.2.1 dX11_symbol_12 (by decide) ?_
  refine lv_aload_n E.1 E.2.1 dX11_symbol_13 rfl (lv_at hl 0 rfl) ?_
  refine fg_c_X11_61_0 E hG dX11_symbol_14 ?_
  refine fg_c_X11_188_28 E hG dX11_symbol_17 ?_
  refine lv_iconst (v := (1 : Int32)) E.1 E.2.1 dX11_symbol_20 (by decide) ?_
  refine lv_isub E.1 E.2.1 dX11_symbol_21 ?_
  obtain ⟨r22, σ22, hcl, hf⟩ := bd_some hf
  refine cl_S (rest := []) (st1 := [.int r22]) (As := [.int x1, .int (0 : Int32), .int ((σ8.1 14) - (1 : Int32))]) E hG (c_c_X11_within hcl) Wd_365 mi_X11_within ⟨Nat.le_of_ble_eq_true rfl, Nat.le_of_ble_eq_true rfl, Nat.zero_le _, Nat.zero_le _⟩ rfl hl.1 rfl (Nat.le_of_ble_eq_true rfl) dX11_symbol_22 rfl (fun H locs hG => ?_)
  refine lv_if_ne (tgt := 38) E.1 E.2.1 dX11_symbol_25 (by decide) (fun hc => ?_) (fun hc => ?_)
  · replace hf := (if_neg hc).symm.trans hf
    refine lv_aload_n E.1 E.2.1 dX11_symbol_38 rfl (lv_at hl 0 rfl) ?_
    refine fg_c_X11_61_0 E hG dX11_symbol_39 ?_
    refine fg_c_X11_200_28 E hG dX11_symbol_42 ?_
    refine lv_iload_n E.1 E.2.1 dX11_symbol_45 rfl (lv_at hl 1 rfl) ?_
    obtain ⟨hin, hf⟩ := gd_some hf
    refine al_c_36 E hG hin dX11_symbol_46 ?_
    exact r_i E hr hlk hG hf dX11_symbol_47
  · replace hf := (if_pos hc).symm.trans hf
    cases hf

set_option maxHeartbeats 4000000 in
set_option maxRecDepth 100000 in
theorem c_c_X11_length {l : Launch} {D : va_G} {ad : Nat → Nat} {cy : ClassId} {σ : SS} {r : Int32} {σ' : SS} (hf : f_c_X11_length σ = some (r, σ')) : Ctr l D (cw ad cy) (cas ad) cy yX11_length cX11_length 1 (some FieldType.int) 0 0 [.ref (ad 0)] σ (some (.int r)) σ' := by
  refine Ctr.of (cw_as ad cy) rfl (Nat.le_of_ble_eq_true rfl) (fun p e s m args below meth c ls E hr hlk hl hG => ?_)
  have hl : lv_has ls 1 [(0, .ref (ad 0))] := hl
  unfold f_c_X11_length at hf
  refine lv_aload_n E.1 E.2.1 dX11_length_0 rfl (lv_at hl 0 rfl) ?_
  refine fg_c_X11_10_0 E hG dX11_length_1 ?_
  refine fg_c_X11_69_1 E hG dX11_length_4 ?_
  exact r_i E hr hlk hG hf dX11_length_7
