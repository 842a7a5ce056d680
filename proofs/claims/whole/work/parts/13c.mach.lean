set_option maxHeartbeats 4000000 in
set_option maxRecDepth 100000 in
theorem k_m_X12_countPair_58 {p : Program} {l : Launch} {e : Env} {s : State} {m : MethodId} {args : Array Value} {below : List Frame} {meth : Method} {c : Code} {D : va_G} {ad : Nat → Nat} {cy : ClassId} {r : Int32} {σ' : SS} (E : CallFix p m c cX12_countPair 6 s args TT yX12_countPair.cls) (hr : meth.sig.returnType = (some FieldType.int)) (hlk : meth.locks = false) (g5 : SS → Int32 → Int32 → Int32 → Int32 → Option (Int32 × SS)) (hg5 : ∀ (σ : SS) (x1 : Int32) (x2 : Int32) (x3 : Int32) (x4 : Int32), g5 σ x1 x2 x3 x4 = some (r, σ') → At p l e 0 0 s m args below meth c D (mw ad cy) (mas ad) cy (some (.int r)) σ' 6 5 [(0, .ref (ad 0)), (1, .int x1), (2, .int x2), (3, .int x3), (4, .int x4)] [] σ) : ∀ (σ : SS) (x1 : Int32) (x2 : Int32) (x4 : Int32) (x5 : Int32) (y0 : Int32) (y1 : Int32), f_m_X12_countPair_58 g5 σ x1 x2 x4 x5 y0 y1 = some (r, σ') → At p l e 0 0 s m args below meth c D (mw ad cy) (mas ad) cy (some (.int r)) σ' 6 58 [(0, .ref (ad 0)), (1, .int x1), (2, .int x2), (4, .int x4), (5, .int x5)] [.int y1, .int y0] σ := by
  intro σ x1 x2 x4 x5 y0 y1 hf H locs ls hG hl
  unfold f_m_X12_countPair_58 at hf
  refine lv_iadd E.1 E.2.1 dX12_countPair_58 ?_
  refine lv_istore_n (lv' := [(3, .int (y0 + y1)), (0, .ref (ad 0)), (1, .int x1), (2, .int x2), (4, .int x4), (5, .int x5)]) E.1 E.2.1 dX12_countPair_59 rfl hl (by decide) rfl (fun ls hl => ?_)
  refine lv_iload E.1 E.2.1 dX12_countPair_60 (lv_at hl 4 rfl) ?_
  refine lv_iload E.1 E.2.1 dX12_countPair_62 (lv_at hl 5 rfl) ?_
  refine lv_if_eq (tgt := 71) E.1 E.2.1 dX12_countPair_64 (by decide) (fun hc => ?_) (fun hc => ?_)
  · replace hf := (if_pos hc).symm.trans hf
    refine lv_iconst (v := (1 : Int32)) E.1 E.2.1 dX12_countPair_71 (by decide) ?_
    refine lv_iadd E.1 E.2.1 dX12_countPair_72 ?_
    refine lv_istore (lv' := [(4, .int (x4 + (1 : Int32))), (3, .int (y0 + y1)), (0, .ref (ad 0)), (1, .int x1), (2, .int x2), (5, .int x5)]) E.1 E.2.1 dX12_countPair_73 hl (by decide) rfl (fun ls hl => ?_)
    refine lv_goto (tgt := 5) E.1 E.2.1 dX12_countPair_75 (by decide) ?_
    exact hg5 _ _ _ _ _ hf _ _ _ hG (lv_sub hl [2, 3, 4, 1, 0] rfl)
  · replace hf := (if_neg hc).symm.trans hf
    refine lv_iconst (v := (2 : Int32)) E.1 E.2.1 dX12_countPair_67 (by decide) ?_
    refine lv_goto (tgt := 72) E.1 E.2.1 dX12_countPair_68 (by decide) ?_
    refine lv_iadd E.1 E.2.1 dX12_countPair_72 ?_
    refine lv_istore (lv' := [(4, .int (x4 + (2 : Int32))), (3, .int (y0 + y1)), (0, .ref (ad 0)), (1, .int x1), (2, .int x2), (5, .int x5)]) E.1 E.2.1 dX12_countPair_73 hl (by decide) rfl (fun ls hl => ?_)
    refine lv_goto (tgt := 5) E.1 E.2.1 dX12_countPair_75 (by decide) ?_
    exact hg5 _ _ _ _ _ hf _ _ _ hG (lv_sub hl [2, 3, 4, 1, 0] rfl)

set_option maxHeartbeats 4000000 in
set_option maxRecDepth 100000 in
theorem k_m_X12_countPair_45 {p : Program} {l : Launch} {e : Env} {s : State} {m : MethodId} {args : Array Value} {below : List Frame} {meth : Method} {c : Code} {D : va_G} {ad : Nat → Nat} {cy : ClassId} {r : Int32} {σ' : SS} (E : CallFix p m c cX12_countPair 6 s args TT yX12_countPair.cls) (hr : meth.sig.returnType = (some FieldType.int)) (hlk : meth.locks = false) (g5 : SS → Int32 → Int32 → Int32 → Int32 → Option (Int32 × SS)) (hg5 : ∀ (σ : SS) (x1 : Int32) (x2 : Int32) (x3 : Int32) (x4 : Int32), g5 σ x1 x2 x3 x4 = some (r, σ') → At p l e 0 0 s m args below meth c D (mw ad cy) (mas ad) cy (some (.int r)) σ' 6 5 [(0, .ref (ad 0)), (1, .int x1), (2, .int x2), (3, .int x3), (4, .int x4)] [] σ) : ∀ (σ : SS) (x1 : Int32) (x2 : Int32) (x3 : Int32) (x4 : Int32) (y0 : Int32), f_m_X12_countPair_45 g5 σ x1 x2 x3 x4 y0 = some (r, σ') → At p l e 0 0 s m args below meth c D (mw ad cy) (mas ad) cy (some (.int r)) σ' 6 45 [(0, .ref (ad 0)), (1, .int x1), (2, .int x2), (3, .int x3), (4, .int x4)] [.int y0] σ := by
  intro σ x1 x2 x3 x4 y0 hf H locs ls hG hl
  unfold f_m_X12_countPair_45 at hf
  refine lv_istore (lv' := [(5, .int y0), (0, .ref (ad 0)), (1, .int x1), (2, .int x2), (3, .int x3), (4, .int x4)]) E.1 E.2.1 dX12_countPair_45 hl (by decide) rfl (fun ls hl => ?_)
  refine lv_iload_n E.1 E.2.1 dX12_countPair_47 rfl (lv_at hl 4 rfl) ?_
  refine lv_iload E.1 E.2.1 dX12_countPair_48 (lv_at hl 0 rfl) ?_
  refine lv_if_eq (tgt := 57) E.1 E.2.1 dX12_countPair_50 (by decide) (fun hc => ?_) (fun hc => ?_)
  · replace hf := (if_pos hc).symm.trans hf
    refine lv_iconst (v := (0 : Int32)) E.1 E.2.1 dX12_countPair_57 (by decide) ?_
    exact k_m_X12_countPair_58 E hr hlk g5 hg5 _ _ _ _ _ _ _ hf _ _ _ hG (lv_sub hl [1, 2, 3, 5, 0] rfl)
  · replace hf := (if_neg hc).symm.trans hf
    refine lv_iconst (v := (1 : Int32)) E.1 E.2.1 dX12_countPair_53 (by decide) ?_
    refine lv_goto (tgt := 58) E.1 E.2.1 dX12_countPair_54 (by decide) ?_
    exact k_m_X12_countPair_58 E hr hlk g5 hg5 _ _ _ _ _ _ _ hf _ _ _ hG (lv_sub hl [1, 2, 3, 5, 0] rfl)

set_option maxHeartbeats 4000000 in
set_option maxRecDepth 100000 in
theorem k_m_X12_countPair_44 {p : Program} {l : Launch} {e : Env} {s : State} {m : MethodId} {args : Array Value} {below : List Frame} {meth : Method} {c : Code} {D : va_G} {ad : Nat → Nat} {cy : ClassId} {r : Int32} {σ' : SS} (E : CallFix p m c cX12_countPair 6 s args TT yX12_countPair.cls) (hr : meth.sig.returnType = (some FieldType.int)) (hlk : meth.locks = false) (g5 : SS → Int32 → Int32 → Int32 → Int32 → Option (Int32 × SS)) (hg5 : ∀ (σ : SS) (x1 : Int32) (x2 : Int32) (x3 : Int32) (x4 : Int32), g5 σ x1 x2 x3 x4 = some (r, σ') → At p l e 0 0 s m args below meth c D (mw ad cy) (mas ad) cy (some (.int r)) σ' 6 5 [(0, .ref (ad 0)), (1, .int x1), (2, .int x2), (3, .int x3), (4, .int x4)] [] σ) : ∀ (σ : SS) (x1 : Int32) (x2 : Int32) (x3 : Int32) (x4 : Int32), f_m_X12_countPair_44 g5 σ x1 x2 x3 x4 = some (r, σ') → At p l e 0 0 s m args below meth c D (mw ad cy) (mas ad) cy (some (.int r)) σ' 6 44 [(0, .ref (ad 0)), (1, .int x1), (2, .int x2), (3, .int x3), (4, .int x4)] [] σ := by
  intro σ x1 x2 x3 x4 hf H locs ls hG hl
  unfold f_m_X12_countPair_44 at hf
  refine lv_iconst (v := (0 : Int32)) E.1 E.2.1 dX12_countPair_44 (by decide) ?_
  exact k_m_X12_countPair_45 E hr hlk g5 hg5 _ _ _ _ _ _ hf _ _ _ hG (lv_sub hl [0, 1, 2, 3, 4] rfl)

set_option maxHeartbeats 4000000 in
set_option maxRecDepth 100000 in
theorem k_m_X12_countPair_5 {p : Program} {l : Launch} {e : Env} {s : State} {m : MethodId} {args : Array Value} {below : List Frame} {meth : Method} {c : Code} {D : va_G} {ad : Nat → Nat} {cy : ClassId} {r : Int32} {σ' : SS} (E : CallFix p m c cX12_countPair 6 s args TT yX12_countPair.cls) (hr : meth.sig.returnType = (some FieldType.int)) (hlk : meth.locks = false) (g5 : SS → Int32 → Int32 → Int32 → Int32 → Option (Int32 × SS)) (hg5 : ∀ (σ : SS) (x1 : Int32) (x2 : Int32) (x3 : Int32) (x4 : Int32), g5 σ x1 x2 x3 x4 = some (r, σ') → At p l e 0 0 s m args below meth c D (mw ad cy) (mas ad) cy (some (.int r)) σ' 6 5 [(0, .ref (ad 0)), (1, .int x1), (2, .int x2), (3, .int x3), (4, .int x4)] [] σ) : ∀ (σ : SS) (x1 : Int32) (x2 : Int32) (x3 : Int32) (x4 : Int32), f_m_X12_countPair_5 g5 σ x1 x2 x3 x4 = some (r, σ') → At p l e 0 0 s m args below meth c D (mw ad cy) (mas ad) cy (some (.int r)) σ' 6 5 [(0, .ref (ad 0)), (1, .int x1), (2, .int x2), (3, .int x3), (4, .int x4)] [] σ := by
  intro σ x1 x2 x3 x4 hf H locs ls hG hl
  unfold f_m_X12_countPair_5 at hf
  refine lv_iload E.1 E.2.1 dX12_countPair_5 (lv_at hl 4 rfl) ?_
  refine lv_iconst (v := (1 : Int32)) E.1 E.2.1 dX12_countPair_7 (by decide) ?_
  refine lv_iadd E.1 E.2.1 dX12_countPair_8 ?_
  refine lv_aload_n E.1 E.2.1 dX12_countPair_9 rfl (lv_at hl 0 rfl) ?_
  refine fg_m_X12_187_0 E hG dX12_countPair_10 ?_
  refine lv_icmp_ge (tgt := 78) E.1 E.2.1 dX12_countPair_13 (by decide) (fun hc => ?_) (fun hc => ?_)
  · replace hf := (if_pos hc).symm.trans hf
    refine lv_iload_n E.1 E.2.1 dX12_countPair_78 rfl (lv_at hl 3 rfl) ?_
    exact r_i E hr hlk hG hf dX12_countPair_79
  · replace hf := (if_neg hc).symm.trans hf
    refine lv_aload_n E.1 E.2.1 dX12_countPair_16 rfl (lv_at hl 0 rfl) ?_
    refine fg_m_X12_43_0 E hG dX12_countPair_17 ?_
    refine lv_iload E.1 E.2.1 dX12_countPair_20 (lv_at hl 4 rfl) ?_
    obtain ⟨hin, hf⟩ := gd_some hf
    refine al_m_12 E hG hin dX12_countPair_22 ?_
    refine lv_iload_n E.1 E.2.1 dX12_countPair_23 rfl (lv_at hl 1 rfl) ?_
    refine lv_icmp_ne (tgt := 44) E.1 E.2.1 dX12_countPair_24 (by decide) (fun hc => ?_) (fun hc => ?_)
    · replace hf := (if_neg hc).symm.trans hf
      exact k_m_X12_countPair_44 E hr hlk g5 hg5 _ _ _ _ _ hf _ _ _ hG (lv_sub hl [0, 1, 2, 3, 4] rfl)
    · replace hf := (if_pos hc).symm.trans hf
      refine lv_aload_n E.1 E.2.1 dX12_countPair_27 rfl (lv_at hl 0 rfl) ?_
      refine fg_m_X12_43_0 E hG dX12_countPair_28 ?_
      refine lv_iload E.1 E.2.1 dX12_countPair_31 (lv_at hl 4 rfl) ?_
      refine lv_iconst (v := (1 : Int32)) E.1 E.2.1 dX12_countPair_33 (by decide) ?_
      refine lv_iadd E.1 E.2.1 dX12_countPair_34 ?_
      obtain ⟨hin, hf⟩ := gd_some hf
      refine al_m_12 E hG hin dX12_countPair_35 ?_
      refine lv_iload_n E.1 E.2.1 dX12_countPair_36 rfl (lv_at hl 2 rfl) ?_
      refine lv_icmp_ne (tgt := 44) E.1 E.2.1 dX12_countPair_37 (by decide) (fun hc => ?_) (fun hc => ?_)
      · replace hf := (if_neg hc).symm.trans hf
        exact k_m_X12_countPair_44 E hr hlk g5 hg5 _ _ _ _ _ hf _ _ _ hG (lv_sub hl [0, 1, 2, 3, 4] rfl)
      · replace hf := (if_pos hc).symm.trans hf
        refine lv_iconst (v := (1 : Int32)) E.1 E.2.1 dX12_countPair_40 (by decide) ?_
        refine lv_goto (tgt := 45) E.1 E.2.1 dX12_countPair_41 (by decide) ?_
        exact k_m_X12_countPair_45 E hr hlk g5 hg5 _ _ _ _ _ _ hf _ _ _ hG (lv_sub hl [0, 1, 2, 3, 4] rfl)

set_option maxHeartbeats 4000000 in
set_option maxRecDepth 100000 in
theorem c_m_X12_countPair {l : Launch} {D : va_G} {ad : Nat → Nat} {cy : ClassId} {σ : SS} {x1 : Int32} {x2 : Int32} {r : Int32} {σ' : SS} (hf : f_m_X12_countPair σ x1 x2 = some (r, σ')) : Ctr l D (mw ad cy) (mas ad) cy yX12_countPair cX12_countPair 6 (some FieldType.int) 0 0 [.ref (ad 0), .int x1, .int x2] σ (some (.int r)) σ' := by
  refine Ctr.of (mw_as ad cy) rfl (Nat.le_of_ble_eq_true rfl) (fun p e s m args below meth c ls E hr hlk hl hG => ?_)
  have hl : lv_has ls 6 [(0, .ref (ad 0)), (1, .int x1), (2, .int x2)] := hl
  unfold f_m_X12_countPair at hf
  refine lv_iconst (v := (0 : Int32)) E.1 E.2.1 dX12_countPair_0 (by decide) ?_
  refine lv_istore_n (lv' := [(3, .int (0 : Int32)), (0, .ref (ad 0)), (1, .int x1), (2, .int x2)]) E.1 E.2.1 dX12_countPair_1 rfl hl (by decide) rfl (fun ls hl => ?_)
  refine lv_iconst (v := (0 : Int32)) E.1 E.2.1 dX12_countPair_2 (by decide) ?_
  refine lv_istore (lv' := [(4, .int (0 : Int32)), (3, .int (0 : Int32)), (0, .ref (ad 0)), (1, .int x1), (2, .int x2)]) E.1 E.2.1 dX12_countPair_3 hl (by decide) rfl (fun ls hl => ?_)
  exact L4_at (P := fun σ x1 x2 x3 x4 => At p l e 0 0 s m args below meth c D (mw ad cy) (mas ad) cy (some (.int r)) σ' 6 5 [(0, .ref (ad 0)), (1, .int x1), (2, .int x2), (3, .int x3), (4, .int x4)] [] σ) (fun g hg => k_m_X12_countPair_5 E hr hlk g hg) FUEL _ _ _ _ _ hf _ _ _ hG (lv_sub hl [2, 3, 4, 1, 0] rfl)

set_option maxHeartbeats 4000000 in
set_option maxRecDepth 100000 in
theorem k_m_X12_bestPair_191 {p : Program} {l : Launch} {e : Env} {s : State} {m : MethodId} {args : Array Value} {below : List Frame} {meth : Method} {c : Code} {D : va_G} {ad : Nat → Nat} {cy : ClassId} {r : Int32} {σ' : SS} (E : CallFix p m c cX12_bestPair 7 s args TT yX12_bestPair.cls) (hr : meth.sig.returnType = (some FieldType.int)) (hlk : meth.locks = false) (g7 : SS → Int32 → Int32 → Int32 → Option (Int32 × SS)) (hg7 : ∀ (σ : SS) (x1 : Int32) (x2 : Int32) (x3 : Int32), g7 σ x1 x2 x3 = some (r, σ') → At p l e 1 25 s m args below meth c D (mw ad cy) (mas ad) cy (some (.int r)) σ' 7 7 [(0, .ref (ad 0)), (1, .int x1), (2, .int x2), (3, .int x3)] [] σ) : ∀ (σ : SS) (x3 : Int32) (x5 : Int32), f_m_X12_bestPair_191 g7 σ x3 x5 = some (r, σ') → At p l e 1 25 s m args below meth c D (mw ad cy) (mas ad) cy (some (.int r)) σ' 7 191 [(0, .ref (ad 0)), (3, .int x3), (5, .int x5)] [] σ := by
  intro σ x3 x5 hf H locs ls hG hl
  unfold f_m_X12_bestPair_191 at hf
  refine lv_iload E.1 E.2.1 dX12_bestPair_191 (lv_at hl 2 rfl) ?_
  refine lv_istore_n (lv' := [(2, .int x5), (0, .ref (ad 0)), (3, .int x3), (5, .int x5)]) E.1 E.2.1 dX12_bestPair_193 rfl hl (by decide) rfl (fun ls hl => ?_)
  refine lv_iload_n E.1 E.2.1 dX12_bestPair_194 rfl (lv_at hl 2 rfl) ?_
  refine lv_istore_n (lv' := [(1, .int x3), (2, .int x5), (0, .ref (ad 0)), (3, .int x3), (5, .int x5)]) E.1 E.2.1 dX12_bestPair_195 rfl hl (by decide) rfl (fun ls hl => ?_)
  refine lv_iinc (v := (x3 + (1 : Int32))) (lv' := [(3, .int (x3 + (1 : Int32))), (1, .int x3), (2, .int x5), (0, .ref (ad 0)), (5, .int x5)]) E.1 E.2.1 dX12_bestPair_196 hl (k := 3) rfl rfl (by decide) rfl (fun ls hl => ?_)
  refine lv_goto (tgt := 7) E.1 E.2.1 dX12_bestPair_199 (by decide) ?_
  exact hg7 _ _ _ _ hf _ _ _ hG (lv_sub hl [3, 1, 2, 0] rfl)

set_option maxHeartbeats 4000000 in
set_option maxRecDepth 100000 in
theorem k_m_X12_bestPair_178 {p : Program} {l : Launch} {e : Env} {s : State} {m : MethodId} {args : Array Value} {below : List Frame} {meth : Method} {c : Code} {D : va_G} {ad : Nat → Nat} {cy : ClassId} {r : Int32} {σ' : SS} (E : CallFix p m c cX12_bestPair 7 s args TT yX12_bestPair.cls) (hr : meth.sig.returnType = (some FieldType.int)) (hlk : meth.locks = false) (g7 : SS → Int32 → Int32 → Int32 → Option (Int32 × SS)) (hg7 : ∀ (σ : SS) (x1 : Int32) (x2 : Int32) (x3 : Int32), g7 σ x1 x2 x3 = some (r, σ') → At p l e 1 25 s m args below meth c D (mw ad cy) (mas ad) cy (some (.int r)) σ' 7 7 [(0, .ref (ad 0)), (1, .int x1), (2, .int x2), (3, .int x3)] [] σ) : ∀ (σ : SS) (x1 : Int32) (x2 : Int32) (x3 : Int32) (x5 : Int32) (y0 : Int32), f_m_X12_bestPair_178 g7 σ x1 x2 x3 x5 y0 = some (r, σ') → At p l e 1 25 s m args below meth c D (mw ad cy) (mas ad) cy (some (.int r)) σ' 7 178 [(0, .ref (ad 0)), (1, .int x1), (2, .int x2), (3, .int x3), (5, .int x5)] [.int y0] σ := by
  intro σ x1 x2 x3 x5 y0 hf H locs ls hG hl
  unfold f_m_X12_bestPair_178 at hf
  refine lv_istore (lv' := [(6, .int y0), (0, .ref (ad 0)), (1, .int x1), (2, .int x2), (3, .int x3), (5, .int x5)]) E.1 E.2.1 dX12_bestPair_178 hl (by decide) rfl (fun ls hl => ?_)
  refine lv_iload E.1 E.2.1 dX12_bestPair_180 (lv_at hl 5 rfl) ?_
  refine lv_iload_n E.1 E.2.1 dX12_bestPair_182 rfl (lv_at hl 3 rfl) ?_
  refine lv_icmp_gt (tgt := 191) E.1 E.2.1 dX12_bestPair_183 (by decide) (fun hc => ?_) (fun hc => ?_)
  · replace hf := (if_pos hc).symm.trans hf
    exact k_m_X12_bestPair_191 E hr hlk g7 hg7 _ _ _ hf _ _ _ hG (lv_sub hl [1, 4, 5] rfl)
  · replace hf := (if_neg hc).symm.trans hf
    refine lv_iload E.1 E.2.1 dX12_bestPair_186 (lv_at hl 0 rfl) ?_
    refine lv_if_eq (tgt := 196) E.1 E.2.1 dX12_bestPair_188 (by decide) (fun hc => ?_) (fun hc => ?_)
    · replace hf := (if_pos hc).symm.trans hf
      refine lv_iinc (v := (x3 + (1 : Int32))) (lv' := [(3, .int (x3 + (1 : Int32))), (6, .int y0), (0, .ref (ad 0)), (1, .int x1), (2, .int x2), (5, .int x5)]) E.1 E.2.1 dX12_bestPair_196 hl (k := 4) rfl rfl (by decide) rfl (fun ls hl => ?_)
      refine lv_goto (tgt := 7) E.1 E.2.1 dX12_bestPair_199 (by decide) ?_
      exact hg7 _ _ _ _ hf _ _ _ hG (lv_sub hl [2, 3, 4, 0] rfl)
    · replace hf := (if_neg hc).symm.trans hf
      exact k_m_X12_bestPair_191 E hr hlk g7 hg7 _ _ _ hf _ _ _ hG (lv_sub hl [1, 4, 5] rfl)

set_option maxHeartbeats 4000000 in
set_option maxRecDepth 100000 in
theorem k_m_X12_bestPair_177 {p : Program} {l : Launch} {e : Env} {s : State} {m : MethodId} {args : Array Value} {below : List Frame} {meth : Method} {c : Code} {D : va_G} {ad : Nat → Nat} {cy : ClassId} {r : Int32} {σ' : SS} (E : CallFix p m c cX12_bestPair 7 s args TT yX12_bestPair.cls) (hr : meth.sig.returnType = (some FieldType.int)) (hlk : meth.locks = false) (g7 : SS → Int32 → Int32 → Int32 → Option (Int32 × SS)) (hg7 : ∀ (σ : SS) (x1 : Int32) (x2 : Int32) (x3 : Int32), g7 σ x1 x2 x3 = some (r, σ') → At p l e 1 25 s m args below meth c D (mw ad cy) (mas ad) cy (some (.int r)) σ' 7 7 [(0, .ref (ad 0)), (1, .int x1), (2, .int x2), (3, .int x3)] [] σ) : ∀ (σ : SS) (x1 : Int32) (x2 : Int32) (x3 : Int32) (x5 : Int32), f_m_X12_bestPair_177 g7 σ x1 x2 x3 x5 = some (r, σ') → At p l e 1 25 s m args below meth c D (mw ad cy) (mas ad) cy (some (.int r)) σ' 7 177 [(0, .ref (ad 0)), (1, .int x1), (2, .int x2), (3, .int x3), (5, .int x5)] [] σ := by
  intro σ x1 x2 x3 x5 hf H locs ls hG hl
  unfold f_m_X12_bestPair_177 at hf
  refine lv_iconst (v := (0 : Int32)) E.1 E.2.1 dX12_bestPair_177 (by decide) ?_
  exact k_m_X12_bestPair_178 E hr hlk g7 hg7 _ _ _ _ _ _ hf _ _ _ hG (lv_sub hl [0, 1, 2, 3, 4] rfl)

set_option maxHeartbeats 4000000 in
set_option maxRecDepth 100000 in
theorem k_m_X12_bestPair_173 {p : Program} {l : Launch} {e : Env} {s : State} {m : MethodId} {args : Array Value} {below : List Frame} {meth : Method} {c : Code} {D : va_G} {ad : Nat → Nat} {cy : ClassId} {r : Int32} {σ' : SS} (E : CallFix p m c cX12_bestPair 7 s args TT yX12_bestPair.cls) (hr : meth.sig.returnType = (some FieldType.int)) (hlk : meth.locks = false) (g7 : SS → Int32 → Int32 → Int32 → Option (Int32 × SS)) (hg7 : ∀ (σ : SS) (x1 : Int32) (x2 : Int32) (x3 : Int32), g7 σ x1 x2 x3 = some (r, σ') → At p l e 1 25 s m args below meth c D (mw ad cy) (mas ad) cy (some (.int r)) σ' 7 7 [(0, .ref (ad 0)), (1, .int x1), (2, .int x2), (3, .int x3)] [] σ) : ∀ (σ : SS) (x1 : Int32) (x2 : Int32) (x3 : Int32) (x5 : Int32), f_m_X12_bestPair_173 g7 σ x1 x2 x3 x5 = some (r, σ') → At p l e 1 25 s m args below meth c D (mw ad cy) (mas ad) cy (some (.int r)) σ' 7 173 [(0, .ref (ad 0)), (1, .int x1), (2, .int x2), (3, .int x3), (5, .int x5)] [] σ := by
  intro σ x1 x2 x3 x5 hf H locs ls hG hl
  unfold f_m_X12_bestPair_173 at hf
  refine lv_iconst (v := (1 : Int32)) E.1 E.2.1 dX12_bestPair_173 (by decide) ?_
  refine lv_goto (tgt := 178) E.1 E.2.1 dX12_bestPair_174 (by decide) ?_
  exact k_m_X12_bestPair_178 E hr hlk g7 hg7 _ _ _ _ _ _ hf _ _ _ hG (lv_sub hl [0, 1, 2, 3, 4] rfl)

set_option maxHeartbeats 4000000 in
set_option maxRecDepth 100000 in
theorem k_m_X12_bestPair_110 {p : Program} {l : Launch} {e : Env} {s : State} {m : MethodId} {args : Array Value} {below : List Frame} {meth : Method} {c : Code} {D : va_G} {ad : Nat → Nat} {cy : ClassId} {r : Int32} {σ' : SS} (E : CallFix p m c cX12_bestPair 7 s args TT yX12_bestPair.cls) (hr : meth.sig.returnType = (some FieldType.int)) (hlk : meth.locks = false) (g7 : SS → Int32 → Int32 → Int32 → Option (Int32 × SS)) (hg7 : ∀ (σ : SS) (x1 : Int32) (x2 : Int32) (x3 : Int32), g7 σ x1 x2 x3 = some (r, σ') → At p l e 1 25 s m args below meth c D (mw ad cy) (mas ad) cy (some (.int r)) σ' 7 7 [(0, .ref (ad 0)), (1, .int x1), (2, .int x2), (3, .int x3)] [] σ) : ∀ (σ : SS) (x1 : Int32) (x2 : Int32) (x3 : Int32) (y0 : Int32), f_m_X12_bestPair_110 g7 σ x1 x2 x3 y0 = some (r, σ') → At p l e 1 25 s m args below meth c D (mw ad cy) (mas ad) cy (some (.int r)) σ' 7 110 [(0, .ref (ad 0)), (1, .int x1), (2, .int x2), (3, .int x3)] [.int y0] σ := by
  intro σ x1 x2 x3 y0 hf H locs ls hG hl
  unfold f_m_X12_bestPair_110 at hf
  refine lv_istore (lv' := [(5, .int y0), (0, .ref (ad 0)), (1, .int x1), (2, .int x2), (3, .int x3)]) E.1 E.2.1 dX12_bestPair_110 hl (by decide) rfl (fun ls hl => ?_)
  refine lv_iload_n E.1 E.2.1 dX12_bestPair_112 rfl (lv_at hl 2 rfl) ?_
  refine lv_bipush (v := (-2 : Int32)) E.1 E.2.1 dX12_bestPair_113 (by decide) ?_
  refine lv_icmp_eq (tgt := 177) E.1 E.2.1 dX12_bestPair_115 (by decide) (fun hc => ?_) (fun hc => ?_)
  · replace hf := (if_pos hc).symm.trans hf
    exact k_m_X12_bestPair_177 E hr hlk g7 hg7 _ _ _ _ _ hf _ _ _ hG (lv_sub hl [1, 2, 3, 4, 0] rfl)
  · replace hf := (if_neg hc).symm.trans hf
    refine lv_iload E.1 E.2.1 dX12_bestPair_118 (lv_at hl 0 rfl) ?_
    refine lv_iload_n E.1 E.2.1 dX12_bestPair_120 rfl (lv_at hl 3 rfl) ?_
    refine lv_icmp_ne (tgt := 177) E.1 E.2.1 dX12_bestPair_121 (by decide) (fun hc => ?_) (fun hc => ?_)
    · replace hf := (if_neg hc).symm.trans hf
      exact k_m_X12_bestPair_177 E hr hlk g7 hg7 _ _ _ _ _ hf _ _ _ hG (lv_sub hl [1, 2, 3, 4, 0] rfl)
    · replace hf := (if_pos hc).symm.trans hf
      refine lv_aload_n E.1 E.2.1 dX12_bestPair_124 rfl (lv_at hl 1 rfl) ?_
      refine fg_m_X12_43_0 E hG dX12_bestPair_125 ?_
      refine lv_iload_n E.1 E.2.1 dX12_bestPair_128 rfl (lv_at hl 4 rfl) ?_
      obtain ⟨hin, hf⟩ := gd_some hf
      refine al_m_12 E hG hin dX12_bestPair_129 ?_
      refine lv_aload_n E.1 E.2.1 dX12_bestPair_130 rfl (lv_at hl 1 rfl) ?_
      refine fg_m_X12_43_0 E hG dX12_bestPair_131 ?_
      refine lv_iload_n E.1 E.2.1 dX12_bestPair_134 rfl (lv_at hl 2 rfl) ?_
      obtain ⟨hin, hf⟩ := gd_some hf
      refine al_m_12 E hG hin dX12_bestPair_135 ?_
      refine lv_icmp_lt (tgt := 173) E.1 E.2.1 dX12_bestPair_136 (by decide) (fun hc => ?_) (fun hc => ?_)
      · replace hf := (if_pos hc).symm.trans hf
        exact k_m_X12_bestPair_173 E hr hlk g7 hg7 _ _ _ _ _ hf _ _ _ hG (lv_sub hl [1, 2, 3, 4, 0] rfl)
      · replace hf := (if_neg hc).symm.trans hf
        refine lv_aload_n E.1 E.2.1 dX12_bestPair_139 rfl (lv_at hl 1 rfl) ?_
        refine fg_m_X12_43_0 E hG dX12_bestPair_140 ?_
        refine lv_iload_n E.1 E.2.1 dX12_bestPair_143 rfl (lv_at hl 4 rfl) ?_
        obtain ⟨hin, hf⟩ := gd_some hf
        refine al_m_12 E hG hin dX12_bestPair_144 ?_
        refine lv_aload_n E.1 E.2.1 dX12_bestPair_145 rfl (lv_at hl 1 rfl) ?_
        refine fg_m_X12_43_0 E hG dX12_bestPair_146 ?_
        refine lv_iload_n E.1 E.2.1 dX12_bestPair_149 rfl (lv_at hl 2 rfl) ?_
        obtain ⟨hin, hf⟩ := gd_some hf
        refine al_m_12 E hG hin dX12_bestPair_150 ?_
        refine lv_icmp_ne (tgt := 177) E.1 E.2.1 dX12_bestPair_151 (by decide) (fun hc => ?_) (fun hc => ?_)
        · replace hf := (if_neg hc).symm.trans hf
          exact k_m_X12_bestPair_177 E hr hlk g7 hg7 _ _ _ _ _ hf _ _ _ hG (lv_sub hl [1, 2, 3, 4, 0] rfl)
        · replace hf := (if_pos hc).symm.trans hf
          refine lv_aload_n E.1 E.2.1 dX12_bestPair_154 rfl (lv_at hl 1 rfl) ?_
          refine fg_m_X12_43_0 E hG dX12_bestPair_155 ?_
          refine lv_iload_n E.1 E.2.1 dX12_bestPair_158 rfl (lv_at hl 4 rfl) ?_
          refine lv_iconst (v := (1 : Int32)) E.1 E.2.1 dX12_bestPair_159 (by decide) ?_
          refine lv_iadd E.1 E.2.1 dX12_bestPair_160 ?_
          obtain ⟨hin, hf⟩ := gd_some hf
          refine al_m_12 E hG hin dX12_bestPair_161 ?_
          refine lv_aload_n E.1 E.2.1 dX12_bestPair_162 rfl (lv_at hl 1 rfl) ?_
          refine fg_m_X12_43_0 E hG dX12_bestPair_163 ?_
          refine lv_iload_n E.1 E.2.1 dX12_bestPair_166 rfl (lv_at hl 2 rfl) ?_
          refine lv_iconst (v := (1 : Int32)) E.1 E.2.1 dX12_bestPair_167 (by decide) ?_
          refine lv_iadd E.1 E.2.1 dX12_bestPair_168 ?_
          obtain ⟨hin, hf⟩ := gd_some hf
          refine al_m_12 E hG hin dX12_bestPair_169 ?_
          refine lv_icmp_ge (tgt := 177) E.1 E.2.1 dX12_bestPair_170 (by decide) (fun hc => ?_) (fun hc => ?_)
          · replace hf := (if_pos hc).symm.trans hf
            exact k_m_X12_bestPair_177 E hr hlk g7 hg7 _ _ _ _ _ hf _ _ _ hG (lv_sub hl [1, 2, 3, 4, 0] rfl)
          · replace hf := (if_neg hc).symm.trans hf
            exact k_m_X12_bestPair_173 E hr hlk g7 hg7 _ _ _ _ _ hf _ _ _ hG (lv_sub hl [1, 2, 3, 4, 0] rfl)

set_option maxHeartbeats 4000000 in
set_option maxRecDepth 100000 in
theorem k_m_X12_bestPair_83 {p : Program} {l : Launch} {e : Env} {s : State} {m : MethodId} {args : Array Value} {below : List Frame} {meth : Method} {c : Code} {D : va_G} {ad : Nat → Nat} {cy : ClassId} {r : Int32} {σ' : SS} (E : CallFix p m c cX12_bestPair 7 s args TT yX12_bestPair.cls) (hr : meth.sig.returnType = (some FieldType.int)) (hlk : meth.locks = false) (g7 : SS → Int32 → Int32 → Int32 → Option (Int32 × SS)) (hg7 : ∀ (σ : SS) (x1 : Int32) (x2 : Int32) (x3 : Int32), g7 σ x1 x2 x3 = some (r, σ') → At p l e 1 25 s m args below meth c D (mw ad cy) (mas ad) cy (some (.int r)) σ' 7 7 [(0, .ref (ad 0)), (1, .int x1), (2, .int x2), (3, .int x3)] [] σ) : ∀ (σ : SS) (x1 : Int32) (x2 : Int32) (x3 : Int32) (x4 : Int32), f_m_X12_bestPair_83 g7 σ x1 x2 x3 x4 = some (r, σ') → At p l e 1 25 s m args below meth c D (mw ad cy) (mas ad) cy (some (.int r)) σ' 7 83 [(0, .ref (ad 0)), (1, .int x1), (2, .int x2), (3, .int x3), (4, .int x4)] [] σ := by
  intro σ x1 x2 x3 x4 hf H locs ls hG hl
  unfold f_m_X12_bestPair_83 at hf
  refine lv_iload E.1 E.2.1 dX12_bestPair_83 (lv_at hl 4 rfl) ?_
  refine lv_if_eq (tgt := 109) E.1 E.2.1 dX12_bestPair_85 (by decide) (fun hc => ?_) (fun hc => ?_)
  · replace hf := (if_pos hc).symm.trans hf
    refine lv_iconst (v := (0 : Int32)) E.1 E.2.1 dX12_bestPair_109 (by decide) ?_
    exact k_m_X12_bestPair_110 E hr hlk g7 hg7 _ _ _ _ _ hf _ _ _ hG (lv_sub hl [0, 1, 2, 3] rfl)
  · replace hf := (if_neg hc).symm.trans hf
    refine lv_aload_n E.1 E.2.1 dX12_bestPair_88 rfl (lv_at hl 0 rfl) ?_
    refine lv_aload_n E.1 E.2.1 dX12_bestPair_89 rfl (lv_at hl 0 rfl) ?_
    refine fg_m_X12_43_0 E hG dX12_bestPair_90 ?_
    refine lv_iload_n E.1 E.2.1 dX12_bestPair_93 rfl (lv_at hl 3 rfl) ?_
    obtain ⟨hin, hf⟩ := gd_some hf
    refine al_m_12 E hG hin dX12_bestPair_94 ?_
    refine lv_aload_n E.1 E.2.1 dX12_bestPair_95 rfl (lv_at hl 0 rfl) ?_
    refine fg_m_X12_43_0 E hG dX12_bestPair_96 ?_
    refine lv_iload_n E.1 E.2.1 dX12_bestPair_99 rfl (lv_at hl 3 rfl) ?_
    refine lv_iconst (v := (1 : Int32)) E.1 E.2.1 dX12_bestPair_100 (by decide) ?_
    refine lv_iadd E.1 E.2.1 dX12_bestPair_101 ?_
    obtain ⟨hin, hf⟩ := gd_some hf
    refine al_m_12 E hG hin dX12_bestPair_102 ?_
    obtain ⟨r103, σ103, hcl, hf⟩ := bd_some hf
    refine cl_V (rest := []) (st1 := [.int r103]) (As := [.int (σ.2 11 (Int32.toNatClampNeg x3)), .int (σ.2 11 (Int32.toNatClampNeg (x3 + (1 : Int32))))]) E hG (c_m_X12_countPair hcl) Wd_1006 mi_X12_countPair ⟨Nat.le_of_ble_eq_true rfl, Nat.le_of_ble_eq_true rfl, Nat.zero_le _, Nat.zero_le _⟩ 13 0 rfl rfl rfl hl.1 rfl (Nat.le_of_ble_eq_true rfl) dX12_bestPair_103 rfl (fun H locs hG => ?_)
    refine lv_goto (tgt := 110) E.1 E.2.1 dX12_bestPair_106 (by decide) ?_
    exact k_m_X12_bestPair_110 E hr hlk g7 hg7 _ _ _ _ _ hf _ _ _ hG (lv_sub hl [0, 1, 2, 3] rfl)

set_option maxHeartbeats 4000000 in
set_option maxRecDepth 100000 in
theorem k_m_X12_bestPair_70 {p : Program} {l : Launch} {e : Env} {s : State} {m : MethodId} {args : Array Value} {below : List Frame} {meth : Method} {c : Code} {D : va_G} {ad : Nat → Nat} {cy : ClassId} {r : Int32} {σ' : SS} (E : CallFix p m c cX12_bestPair 7 s args TT yX12_bestPair.cls) (hr : meth.sig.returnType = (some FieldType.int)) (hlk : meth.locks = false) (g7 : SS → Int32 → Int32 → Int32 → Option (Int32 × SS)) (hg7 : ∀ (σ : SS) (x1 : Int32) (x2 : Int32) (x3 : Int32), g7 σ x1 x2 x3 = some (r, σ') → At p l e 1 25 s m args below meth c D (mw ad cy) (mas ad) cy (some (.int r)) σ' 7 7 [(0, .ref (ad 0)), (1, .int x1), (2, .int x2), (3, .int x3)] [] σ) (g23 : SS → Int32 → Int32 → Int32 → Int32 → Int32 → Option (Int32 × SS)) (hg23 : ∀ (σ : SS) (x1 : Int32) (x2 : Int32) (x3 : Int32) (x4 : Int32) (x5 : Int32), g23 σ x1 x2 x3 x4 x5 = some (r, σ') → At p l e 1 25 s m args below meth c D (mw ad cy) (mas ad) cy (some (.int r)) σ' 7 23 [(0, .ref (ad 0)), (1, .int x1), (2, .int x2), (3, .int x3), (4, .int x4), (5, .int x5)] [] σ) : ∀ (σ : SS) (x1 : Int32) (x2 : Int32) (x3 : Int32) (x5 : Int32), f_m_X12_bestPair_70 g7 g23 σ x1 x2 x3 x5 = some (r, σ') → At p l e 1 25 s m args below meth c D (mw ad cy) (mas ad) cy (some (.int r)) σ' 7 70 [(0, .ref (ad 0)), (1, .int x1), (2, .int x2), (3, .int x3), (5, .int x5)] [] σ := by
  intro σ x1 x2 x3 x5 hf H locs ls hG hl
  unfold f_m_X12_bestPair_70 at hf
  refine lv_iconst (v := (1 : Int32)) E.1 E.2.1 dX12_bestPair_70 (by decide) ?_
  refine lv_goto (tgt := 75) E.1 E.2.1 dX12_bestPair_71 (by decide) ?_
  refine lv_istore (lv' := [(4, .int (1 : Int32)), (0, .ref (ad 0)), (1, .int x1), (2, .int x2), (3, .int x3), (5, .int x5)]) E.1 E.2.1 dX12_bestPair_75 hl (by decide) rfl (fun ls hl => ?_)
  refine lv_iinc (v := (x5 + (1 : Int32))) (lv' := [(5, .int (x5 + (1 : Int32))), (4, .int (1 : Int32)), (0, .ref (ad 0)), (1, .int x1), (2, .int x2), (3, .int x3)]) E.1 E.2.1 dX12_bestPair_77 hl (k := 5) rfl rfl (by decide) rfl (fun ls hl => ?_)
  refine lv_goto (tgt := 23) E.1 E.2.1 dX12_bestPair_80 (by decide) ?_
  exact hg23 _ _ _ _ _ _ hf _ _ _ hG (lv_sub hl [2, 3, 4, 5, 1, 0] rfl)

set_option maxHeartbeats 4000000 in
set_option maxRecDepth 100000 in
theorem k_m_X12_bestPair_23 {p : Program} {l : Launch} {e : Env} {s : State} {m : MethodId} {args : Array Value} {below : List Frame} {meth : Method} {c : Code} {D : va_G} {ad : Nat → Nat} {cy : ClassId} {r : Int32} {σ' : SS} (E : CallFix p m c cX12_bestPair 7 s args TT yX12_bestPair.cls) (hr : meth.sig.returnType = (some FieldType.int)) (hlk : meth.locks = false) (g7 : SS → Int32 → Int32 → Int32 → Option (Int32 × SS)) (hg7 : ∀ (σ : SS) (x1 : Int32) (x2 : Int32) (x3 : Int32), g7 σ x1 x2 x3 = some (r, σ') → At p l e 1 25 s m args below meth c D (mw ad cy) (mas ad) cy (some (.int r)) σ' 7 7 [(0, .ref (ad 0)), (1, .int x1), (2, .int x2), (3, .int x3)] [] σ) (g23 : SS → Int32 → Int32 → Int32 → Int32 → Int32 → Option (Int32 × SS)) (hg23 : ∀ (σ : SS) (x1 : Int32) (x2 : Int32) (x3 : Int32) (x4 : Int32) (x5 : Int32), g23 σ x1 x2 x3 x4 x5 = some (r, σ') → At p l e 1 25 s m args below meth c D (mw ad cy) (mas ad) cy (some (.int r)) σ' 7 23 [(0, .ref (ad 0)), (1, .int x1), (2, .int x2), (3, .int x3), (4, .int x4), (5, .int x5)] [] σ) : ∀ (σ : SS) (x1 : Int32) (x2 : Int32) (x3 : Int32) (x4 : Int32) (x5 : Int32), f_m_X12_bestPair_23 g7 g23 σ x1 x2 x3 x4 x5 = some (r, σ') → At p l e 1 25 s m args below meth c D (mw ad cy) (mas ad) cy (some (.int r)) σ' 7 23 [(0, .ref (ad 0)), (1, .int x1), (2, .int x2), (3, .int x3), (4, .int x4), (5, .int x5)] [] σ := by
  intro σ x1 x2 x3 x4 x5 hf H locs ls hG hl
  unfold f_m_X12_bestPair_23 at hf
  refine lv_iload E.1 E.2.1 dX12_bestPair_23 (lv_at hl 5 rfl) ?_
  refine lv_iload_n E.1 E.2.1 dX12_bestPair_25 rfl (lv_at hl 3 rfl) ?_
  refine lv_icmp_ge (tgt := 83) E.1 E.2.1 dX12_bestPair_26 (by decide) (fun hc => ?_) (fun hc => ?_)
  · replace hf := (if_pos hc).symm.trans hf
    exact k_m_X12_bestPair_83 E hr hlk g7 hg7 _ _ _ _ _ hf _ _ _ hG (lv_sub hl [0, 1, 2, 3, 4] rfl)
  · replace hf := (if_neg hc).symm.trans hf
    refine lv_iload E.1 E.2.1 dX12_bestPair_29 (lv_at hl 4 rfl) ?_
    refine lv_if_eq (tgt := 83) E.1 E.2.1 dX12_bestPair_31 (by decide) (fun hc => ?_) (fun hc => ?_)
    · replace hf := (if_pos hc).symm.trans hf
      exact k_m_X12_bestPair_83 E hr hlk g7 hg7 _ _ _ _ _ hf _ _ _ hG (lv_sub hl [0, 1, 2, 3, 4] rfl)
    · replace hf := (if_neg hc).symm.trans hf
      refine lv_aload_n E.1 E.2.1 dX12_bestPair_34 rfl (lv_at hl 0 rfl) ?_
      refine fg_m_X12_43_0 E hG dX12_bestPair_35 ?_
      refine lv_iload E.1 E.2.1 dX12_bestPair_38 (lv_at hl 5 rfl) ?_
      obtain ⟨hin, hf⟩ := gd_some hf
      refine al_m_12 E hG hin dX12_bestPair_40 ?_
      refine lv_aload_n E.1 E.2.1 dX12_bestPair_41 rfl (lv_at hl 0 rfl) ?_
      refine fg_m_X12_43_0 E hG dX12_bestPair_42 ?_
      refine lv_iload_n E.1 E.2.1 dX12_bestPair_45 rfl (lv_at hl 3 rfl) ?_
      obtain ⟨hin, hf⟩ := gd_some hf
      refine al_m_12 E hG hin dX12_bestPair_46 ?_
      refine lv_icmp_ne (tgt := 70) E.1 E.2.1 dX12_bestPair_47 (by decide) (fun hc => ?_) (fun hc => ?_)
      · replace hf := (if_neg hc).symm.trans hf
        exact k_m_X12_bestPair_70 E hr hlk g7 hg7 g23 hg23 _ _ _ _ _ hf _ _ _ hG (lv_sub hl [0, 1, 2, 3, 5] rfl)
      · replace hf := (if_pos hc).symm.trans hf
        refine lv_aload_n E.1 E.2.1 dX12_bestPair_50 rfl (lv_at hl 0 rfl) ?_
        refine fg_m_X12_43_0 E hG dX12_bestPair_51 ?_
        refine lv_iload E.1 E.2.1 dX12_bestPair_54 (lv_at hl 5 rfl) ?_
        refine lv_iconst (v := (1 : Int32)) E.1 E.2.1 dX12_bestPair_56 (by decide) ?_
        refine lv_iadd E.1 E.2.1 dX12_bestPair_57 ?_
        obtain ⟨hin, hf⟩ := gd_some hf
        refine al_m_12 E hG hin dX12_bestPair_58 ?_
        refine lv_aload_n E.1 E.2.1 dX12_bestPair_59 rfl (lv_at hl 0 rfl) ?_
        refine fg_m_X12_43_0 E hG dX12_bestPair_60 ?_
        refine lv_iload_n E.1 E.2.1 dX12_bestPair_63 rfl (lv_at hl 3 rfl) ?_
        refine lv_iconst (v := (1 : Int32)) E.1 E.2.1 dX12_bestPair_64 (by decide) ?_
        refine lv_iadd E.1 E.2.1 dX12_bestPair_65 ?_
        obtain ⟨hin, hf⟩ := gd_some hf
        refine al_m_12 E hG hin dX12_bestPair_66 ?_
        refine lv_icmp_eq (tgt := 74) E.1 E.2.1 dX12_bestPair_67 (by decide) (fun hc => ?_) (fun hc => ?_)
        · replace hf := (if_pos hc).symm.trans hf
          refine lv_iconst (v := (0 : Int32)) E.1 E.2.1 dX12_bestPair_74 (by decide) ?_
          refine lv_istore (lv' := [(4, .int (0 : Int32)), (0, .ref (ad 0)), (1, .int x1), (2, .int x2), (3, .int x3), (5, .int x5)]) E.1 E.2.1 dX12_bestPair_75 hl (by decide) rfl (fun ls hl => ?_)
          refine lv_iinc (v := (x5 + (1 : Int32))) (lv' := [(5, .int (x5 + (1 : Int32))), (4, .int (0 : Int32)), (0, .ref (ad 0)), (1, .int x1), (2, .int x2), (3, .int x3)]) E.1 E.2.1 dX12_bestPair_77 hl (k := 5) rfl rfl (by decide) rfl (fun ls hl => ?_)
          refine lv_goto (tgt := 23) E.1 E.2.1 dX12_bestPair_80 (by decide) ?_
          exact hg23 _ _ _ _ _ _ hf _ _ _ hG (lv_sub hl [2, 3, 4, 5, 1, 0] rfl)
        · replace hf := (if_neg hc).symm.trans hf
          exact k_m_X12_bestPair_70 E hr hlk g7 hg7 g23 hg23 _ _ _ _ _ hf _ _ _ hG (lv_sub hl [0, 1, 2, 3, 5] rfl)

set_option maxHeartbeats 4000000 in
set_option maxRecDepth 100000 in
theorem k_m_X12_bestPair_7 {p : Program} {l : Launch} {e : Env} {s : State} {m : MethodId} {args : Array Value} {below : List Frame} {meth : Method} {c : Code} {D : va_G} {ad : Nat → Nat} {cy : ClassId} {r : Int32} {σ' : SS} (E : CallFix p m c cX12_bestPair 7 s args TT yX12_bestPair.cls) (hr : meth.sig.returnType = (some FieldType.int)) (hlk : meth.locks = false) (g7 : SS → Int32 → Int32 → Int32 → Option (Int32 × SS)) (hg7 : ∀ (σ : SS) (x1 : Int32) (x2 : Int32) (x3 : Int32), g7 σ x1 x2 x3 = some (r, σ') → At p l e 1 25 s m args below meth c D (mw ad cy) (mas ad) cy (some (.int r)) σ' 7 7 [(0, .ref (ad 0)), (1, .int x1), (2, .int x2), (3, .int x3)] [] σ) : ∀ (σ : SS) (x1 : Int32) (x2 : Int32) (x3 : Int32), f_m_X12_bestPair_7 g7 σ x1 x2 x3 = some (r, σ') → At p l e 1 25 s m args below meth c D (mw ad cy) (mas ad) cy (some (.int r)) σ' 7 7 [(0, .ref (ad 0)), (1, .int x1), (2, .int x2), (3, .int x3)] [] σ := by
  intro σ x1 x2 x3 hf H locs ls hG hl
  unfold f_m_X12_bestPair_7 at hf
  refine lv_iload_n E.1 E.2.1 dX12_bestPair_7 rfl (lv_at hl 3 rfl) ?_
  refine lv_iconst (v := (1 : Int32)) E.1 E.2.1 dX12_bestPair_8 (by decide) ?_
  refine lv_iadd E.1 E.2.1 dX12_bestPair_9 ?_
  refine lv_aload_n E.1 E.2.1 dX12_bestPair_10 rfl (lv_at hl 0 rfl) ?_
  refine fg_m_X12_187_0 E hG dX12_bestPair_11 ?_
  refine lv_icmp_ge (tgt := 202) E.1 E.2.1 dX12_bestPair_14 (by decide) (fun hc => ?_) (fun hc => ?_)
  · replace hf := (if_pos hc).symm.trans hf
    refine lv_iload_n E.1 E.2.1 dX12_bestPair_202 rfl (lv_at hl 1 rfl) ?_
    exact r_i E hr hlk hG hf dX12_bestPair_203
  · replace hf := (if_neg hc).symm.trans hf
    refine lv_iconst (v := (1 : Int32)) E.1 E.2.1 dX12_bestPair_17 (by decide) ?_
    refine lv_istore (lv' := [(4, .int (1 : Int32)), (0, .ref (ad 0)), (1, .int x1), (2, .int x2), (3, .int x3)]) E.1 E.2.1 dX12_bestPair_18 hl (by decide) rfl (fun ls hl => ?_)
    refine lv_iconst (v := (0 : Int32)) E.1 E.2.1 dX12_bestPair_20 (by decide) ?_
    refine lv_istore (lv' := [(5, .int (0 : Int32)), (4, .int (1 : Int32)), (0, .ref (ad 0)), (1, .int x1), (2, .int x2), (3, .int x3)]) E.1 E.2.1 dX12_bestPair_21 hl (by decide) rfl (fun ls hl => ?_)
    exact L5_at (P := fun σ x1 x2 x3 x4 x5 => At p l e 1 25 s m args below meth c D (mw ad cy) (mas ad) cy (some (.int r)) σ' 7 23 [(0, .ref (ad 0)), (1, .int x1), (2, .int x2), (3, .int x3), (4, .int x4), (5, .int x5)] [] σ) (fun g hg => k_m_X12_bestPair_23 E hr hlk g7 hg7 g hg) FUEL _ _ _ _ _ _ hf _ _ _ hG (lv_sub hl [2, 3, 4, 5, 1, 0] rfl)

set_option maxHeartbeats 4000000 in
set_option maxRecDepth 100000 in
theorem c_m_X12_bestPair {l : Launch} {D : va_G} {ad : Nat → Nat} {cy : ClassId} {σ : SS} {r : Int32} {σ' : SS} (hf : f_m_X12_bestPair σ = some (r, σ')) : Ctr l D (mw ad cy) (mas ad) cy yX12_bestPair cX12_bestPair 7 (some FieldType.int) 1 25 [.ref (ad 0)] σ (some (.int r)) σ' := by
  refine Ctr.of (mw_as ad cy) rfl (Nat.le_of_ble_eq_true rfl) (fun p e s m args below meth c ls E hr hlk hl hG => ?_)
  have hl : lv_has ls 7 [(0, .ref (ad 0))] := hl
  unfold f_m_X12_bestPair at hf
  refine lv_bipush (v := (-2 : Int32)) E.1 E.2.1 dX12_bestPair_0 (by decide) ?_
  refine lv_istore_n (lv' := [(1, .int (-2 : Int32)), (0, .ref (ad 0))]) E.1 E.2.1 dX12_bestPair_2 rfl hl (by decide) rfl (fun ls hl => ?_)
  refine lv_iconst (v := (1 : Int32)) E.1 E.2.1 dX12_bestPair_3 (by decide) ?_
  refine lv_istore_n (lv' := [(2, .int (1 : Int32)), (1, .int (-2 : Int32)), (0, .ref (ad 0))]) E.1 E.2.1 dX12_bestPair_4 rfl hl (by decide) rfl (fun ls hl => ?_)
  refine lv_iconst (v := (0 : Int32)) E.1 E.2.1 dX12_bestPair_5 (by decide) ?_
  refine lv_istore_n (lv' := [(3, .int (0 : Int32)), (2, .int (1 : Int32)), (1, .int (-2 : Int32)), (0, .ref (ad 0))]) E.1 E.2.1 dX12_bestPair_6 rfl hl (by decide) rfl (fun ls hl => ?_)
  exact L3_at (P := fun σ x1 x2 x3 => At p l e 1 25 s m args below meth c D (mw ad cy) (mas ad) cy (some (.int r)) σ' 7 7 [(0, .ref (ad 0)), (1, .int x1), (2, .int x2), (3, .int x3)] [] σ) (fun g hg => k_m_X12_bestPair_7 E hr hlk g hg) FUEL _ _ _ _ hf _ _ _ hG (lv_sub hl [3, 2, 1, 0] rfl)

set_option maxHeartbeats 4000000 in
set_option maxRecDepth 100000 in
theorem k_m_X12_makeGrammar_201 {p : Program} {l : Launch} {e : Env} {s : State} {m : MethodId} {args : Array Value} {below : List Frame} {meth : Method} {c : Code} {D : va_G} {ad : Nat → Nat} {cy : ClassId} {r : Unit} {σ' : SS} (E : CallFix p m c cX12_makeGrammar 7 s args TT yX12_makeGrammar.cls) (hr : meth.sig.returnType = none) (hlk : meth.locks = false) (g74 : SS → Int32 → Option (Unit × SS)) (hg74 : ∀ (σ : SS) (x1 : Int32), g74 σ x1 = some (r, σ') → At p l e 2 51 s m args below meth c D (mw ad cy) (mas ad) cy (none) σ' 7 74 [(0, .ref (ad 0)), (1, .int x1)] [] σ) (g122 : SS → Int32 → Int32 → Int32 → Int32 → Option (Unit × SS)) (hg122 : ∀ (σ : SS) (x2 : Int32) (x3 : Int32) (x4 : Int32) (x5 : Int32), g122 σ x2 x3 x4 x5 = some (r, σ') → At p l e 2 51 s m args below meth c D (mw ad cy) (mas ad) cy (none) σ' 7 122 [(0, .ref (ad 0)), (2, .int x2), (3, .int x3), (4, .int x4), (5, .int x5)] [] σ) : ∀ (σ : SS) (x2 : Int32) (x3 : Int32) (x4 : Int32) (x5 : Int32) (x6 : Int32) (y1 : Int32) (y2 : Int32), f_m_X12_makeGrammar_201 g74 g122 σ x2 x3 x4 x5 x6 y1 y2 = some (r, σ') → At p l e 2 51 s m args below meth c D (mw ad cy) (mas ad) cy (none) σ' 7 201 [(0, .ref (ad 0)), (2, .int x2), (3, .int x3), (4, .int x4), (5, .int x5), (6, .int x6)] [.int y2, .int y1, .ref (ad 12)] σ := by
  intro σ x2 x3 x4 x5 x6 y1 y2 hf H locs ls hG hl
  unfold f_m_X12_makeGrammar_201 at hf
  obtain ⟨hin, hf⟩ := gd_some hf
  refine as_m_12 E hG hin dX12_makeGrammar_201 (fun H locs hG => ?_)
  refine lv_iinc (v := (x4 + (1 : Int32))) (lv' := [(4, .int (x4 + (1 : Int32))), (0, .ref (ad 0)), (2, .int x2), (3, .int x3), (5, .int x5), (6, .int x6)]) E.1 E.2.1 dX12_makeGrammar_202 hl (k := 3) rfl rfl (by decide) rfl (fun ls hl => ?_)
  refine lv_iload E.1 E.2.1 dX12_makeGrammar_205 (lv_at hl 4 rfl) ?_
  refine lv_iload E.1 E.2.1 dX12_makeGrammar_207 (lv_at hl 5 rfl) ?_
  refine lv_if_eq (tgt := 216) E.1 E.2.1 dX12_makeGrammar_209 (by decide) (fun hc => ?_) (fun hc => ?_)
  · replace hf := (if_pos hc).symm.trans hf
    refine lv_iconst (v := (1 : Int32)) E.1 E.2.1 dX12_makeGrammar_216 (by decide) ?_
    refine lv_iadd E.1 E.2.1 dX12_makeGrammar_217 ?_
    refine lv_istore (lv' := [(5, .int (x5 + (1 : Int32))), (4, .int (x4 + (1 : Int32))), (0, .ref (ad 0)), (2, .int x2), (3, .int x3), (6, .int x6)]) E.1 E.2.1 dX12_makeGrammar_218 hl (by decide) rfl (fun ls hl => ?_)
    refine lv_goto (tgt := 122) E.1 E.2.1 dX12_makeGrammar_220 (by decide) ?_
    exact hg122 _ _ _ _ _ hf _ _ _ hG (lv_sub hl [2, 3, 4, 1, 0] rfl)
  · replace hf := (if_neg hc).symm.trans hf
    refine lv_iconst (v := (2 : Int32)) E.1 E.2.1 dX12_makeGrammar_212 (by decide) ?_
    refine lv_goto (tgt := 217) E.1 E.2.1 dX12_makeGrammar_213 (by decide) ?_
    refine lv_iadd E.1 E.2.1 dX12_makeGrammar_217 ?_
    refine lv_istore (lv' := [(5, .int (x5 + (2 : Int32))), (4, .int (x4 + (1 : Int32))), (0, .ref (ad 0)), (2, .int x2), (3, .int x3), (6, .int x6)]) E.1 E.2.1 dX12_makeGrammar_218 hl (by decide) rfl (fun ls hl => ?_)
    refine lv_goto (tgt := 122) E.1 E.2.1 dX12_makeGrammar_220 (by decide) ?_
    exact hg122 _ _ _ _ _ hf _ _ _ hG (lv_sub hl [2, 3, 4, 1, 0] rfl)

set_option maxHeartbeats 4000000 in
set_option maxRecDepth 100000 in
theorem k_m_X12_makeGrammar_171 {p : Program} {l : Launch} {e : Env} {s : State} {m : MethodId} {args : Array Value} {below : List Frame} {meth : Method} {c : Code} {D : va_G} {ad : Nat → Nat} {cy : ClassId} {r : Unit} {σ' : SS} (E : CallFix p m c cX12_makeGrammar 7 s args TT yX12_makeGrammar.cls) (hr : meth.sig.returnType = none) (hlk : meth.locks = false) (g74 : SS → Int32 → Option (Unit × SS)) (hg74 : ∀ (σ : SS) (x1 : Int32), g74 σ x1 = some (r, σ') → At p l e 2 51 s m args below meth c D (mw ad cy) (mas ad) cy (none) σ' 7 74 [(0, .ref (ad 0)), (1, .int x1)] [] σ) (g122 : SS → Int32 → Int32 → Int32 → Int32 → Option (Unit × SS)) (hg122 : ∀ (σ : SS) (x2 : Int32) (x3 : Int32) (x4 : Int32) (x5 : Int32), g122 σ x2 x3 x4 x5 = some (r, σ') → At p l e 2 51 s m args below meth c D (mw ad cy) (mas ad) cy (none) σ' 7 122 [(0, .ref (ad 0)), (2, .int x2), (3, .int x3), (4, .int x4), (5, .int x5)] [] σ) : ∀ (σ : SS) (x2 : Int32) (x3 : Int32) (x4 : Int32) (x5 : Int32) (y0 : Int32), f_m_X12_makeGrammar_171 g74 g122 σ x2 x3 x4 x5 y0 = some (r, σ') → At p l e 2 51 s m args below meth c D (mw ad cy) (mas ad) cy (none) σ' 7 171 [(0, .ref (ad 0)), (2, .int x2), (3, .int x3), (4, .int x4), (5, .int x5)] [.int y0] σ := by
  intro σ x2 x3 x4 x5 y0 hf H locs ls hG hl
  unfold f_m_X12_makeGrammar_171 at hf
  refine lv_istore (lv' := [(6, .int y0), (0, .ref (ad 0)), (2, .int x2), (3, .int x3), (4, .int x4), (5, .int x5)]) E.1 E.2.1 dX12_makeGrammar_171 hl (by decide) rfl (fun ls hl => ?_)
  refine lv_aload_n E.1 E.2.1 dX12_makeGrammar_173 rfl (lv_at hl 1 rfl) ?_
  refine fg_m_X12_43_0 E hG dX12_makeGrammar_174 ?_
  refine lv_iload E.1 E.2.1 dX12_makeGrammar_177 (lv_at hl 4 rfl) ?_
  refine lv_iload E.1 E.2.1 dX12_makeGrammar_179 (lv_at hl 0 rfl) ?_
  refine lv_if_eq (tgt := 194) E.1 E.2.1 dX12_makeGrammar_181 (by decide) (fun hc => ?_) (fun hc => ?_)
  · replace hf := (if_pos hc).symm.trans hf
    refine lv_aload_n E.1 E.2.1 dX12_makeGrammar_194 rfl (lv_at hl 1 rfl) ?_
    refine fg_m_X12_43_0 E hG dX12_makeGrammar_195 ?_
    refine lv_iload E.1 E.2.1 dX12_makeGrammar_198 (lv_at hl 5 rfl) ?_
    obtain ⟨hin, hf⟩ := gd_some hf
    refine al_m_12 E hG hin dX12_makeGrammar_200 ?_
    exact k_m_X12_makeGrammar_201 E hr hlk g74 hg74 g122 hg122 _ _ _ _ _ _ _ _ hf _ _ _ hG (lv_sub hl [1, 2, 3, 4, 5, 0] rfl)
  · replace hf := (if_neg hc).symm.trans hf
    refine lv_bipush (v := (16 : Int32)) E.1 E.2.1 dX12_makeGrammar_184 (by decide) ?_
    refine lv_aload_n E.1 E.2.1 dX12_makeGrammar_186 rfl (lv_at hl 1 rfl) ?_
    refine fg_m_X12_197_0 E hG dX12_makeGrammar_187 ?_
    refine lv_iadd E.1 E.2.1 dX12_makeGrammar_190 ?_
    refine lv_goto (tgt := 201) E.1 E.2.1 dX12_makeGrammar_191 (by decide) ?_
    exact k_m_X12_makeGrammar_201 E hr hlk g74 hg74 g122 hg122 _ _ _ _ _ _ _ _ hf _ _ _ hG (lv_sub hl [1, 2, 3, 4, 5, 0] rfl)

set_option maxHeartbeats 4000000 in
set_option maxRecDepth 100000 in
theorem k_m_X12_makeGrammar_170 {p : Program} {l : Launch} {e : Env} {s : State} {m : MethodId} {args : Array Value} {below : List Frame} {meth : Method} {c : Code} {D : va_G} {ad : Nat → Nat} {cy : ClassId} {r : Unit} {σ' : SS} (E : CallFix p m c cX12_makeGrammar 7 s args TT yX12_makeGrammar.cls) (hr : meth.sig.returnType = none) (hlk : meth.locks = false) (g74 : SS → Int32 → Option (Unit × SS)) (hg74 : ∀ (σ : SS) (x1 : Int32), g74 σ x1 = some (r, σ') → At p l e 2 51 s m args below meth c D (mw ad cy) (mas ad) cy (none) σ' 7 74 [(0, .ref (ad 0)), (1, .int x1)] [] σ) (g122 : SS → Int32 → Int32 → Int32 → Int32 → Option (Unit × SS)) (hg122 : ∀ (σ : SS) (x2 : Int32) (x3 : Int32) (x4 : Int32) (x5 : Int32), g122 σ x2 x3 x4 x5 = some (r, σ') → At p l e 2 51 s m args below meth c D (mw ad cy) (mas ad) cy (none) σ' 7 122 [(0, .ref (ad 0)), (2, .int x2), (3, .int x3), (4, .int x4), (5, .int x5)] [] σ) : ∀ (σ : SS) (x2 : Int32) (x3 : Int32) (x4 : Int32) (x5 : Int32), f_m_X12_makeGrammar_170 g74 g122 σ x2 x3 x4 x5 = some (r, σ') → At p l e 2 51 s m args below meth c D (mw ad cy) (mas ad) cy (none) σ' 7 170 [(0, .ref (ad 0)), (2, .int x2), (3, .int x3), (4, .int x4), (5, .int x5)] [] σ := by
  intro σ x2 x3 x4 x5 hf H locs ls hG hl
  unfold f_m_X12_makeGrammar_170 at hf
  refine lv_iconst (v := (0 : Int32)) E.1 E.2.1 dX12_makeGrammar_170 (by decide) ?_
  exact k_m_X12_makeGrammar_171 E hr hlk g74 hg74 g122 hg122 _ _ _ _ _ _ hf _ _ _ hG (lv_sub hl [0, 1, 2, 3, 4] rfl)

set_option maxHeartbeats 4000000 in
set_option maxRecDepth 100000 in
theorem k_m_X12_makeGrammar_122 {p : Program} {l : Launch} {e : Env} {s : State} {m : MethodId} {args : Array Value} {below : List Frame} {meth : Method} {c : Code} {D : va_G} {ad : Nat → Nat} {cy : ClassId} {r : Unit} {σ' : SS} (E : CallFix p m c cX12_makeGrammar 7 s args TT yX12_makeGrammar.cls) (hr : meth.sig.returnType = none) (hlk : meth.locks = false) (g74 : SS → Int32 → Option (Unit × SS)) (hg74 : ∀ (σ : SS) (x1 : Int32), g74 σ x1 = some (r, σ') → At p l e 2 51 s m args below meth c D (mw ad cy) (mas ad) cy (none) σ' 7 74 [(0, .ref (ad 0)), (1, .int x1)] [] σ) (g122 : SS → Int32 → Int32 → Int32 → Int32 → Option (Unit × SS)) (hg122 : ∀ (σ : SS) (x2 : Int32) (x3 : Int32) (x4 : Int32) (x5 : Int32), g122 σ x2 x3 x4 x5 = some (r, σ') → At p l e 2 51 s m args below meth c D (mw ad cy) (mas ad) cy (none) σ' 7 122 [(0, .ref (ad 0)), (2, .int x2), (3, .int x3), (4, .int x4), (5, .int x5)] [] σ) : ∀ (σ : SS) (x2 : Int32) (x3 : Int32) (x4 : Int32) (x5 : Int32), f_m_X12_makeGrammar_122 g74 g122 σ x2 x3 x4 x5 = some (r, σ') → At p l e 2 51 s m args below meth c D (mw ad cy) (mas ad) cy (none) σ' 7 122 [(0, .ref (ad 0)), (2, .int x2), (3, .int x3), (4, .int x4), (5, .int x5)] [] σ := by
  intro σ x2 x3 x4 x5 hf H locs ls hG hl
  unfold f_m_X12_makeGrammar_122 at hf
  refine lv_iload E.1 E.2.1 dX12_makeGrammar_122 (lv_at hl 4 rfl) ?_
  refine lv_aload_n E.1 E.2.1 dX12_makeGrammar_124 rfl (lv_at hl 0 rfl) ?_
  refine fg_m_X12_187_0 E hG dX12_makeGrammar_125 ?_
  refine lv_icmp_ge (tgt := 223) E.1 E.2.1 dX12_makeGrammar_128 (by decide) (fun hc => ?_) (fun hc => ?_)
  · replace hf := (if_pos hc).symm.trans hf
    refine lv_aload_n E.1 E.2.1 dX12_makeGrammar_223 rfl (lv_at hl 0 rfl) ?_
    refine lv_iload E.1 E.2.1 dX12_makeGrammar_224 (lv_at hl 3 rfl) ?_
    refine fp_m_X12_187_0 E hG dX12_makeGrammar_226 (fun H locs hG => ?_)
    refine lv_aload_n E.1 E.2.1 dX12_makeGrammar_229 rfl (lv_at hl 0 rfl) ?_
    refine lv_dup E.1 E.2.1 dX12_makeGrammar_230 rfl ?_
    refine fg_m_X12_197_0 E hG dX12_makeGrammar_231 ?_
    refine lv_iconst (v := (1 : Int32)) E.1 E.2.1 dX12_makeGrammar_234 (by decide) ?_
    refine lv_iadd E.1 E.2.1 dX12_makeGrammar_235 ?_
    refine fp_m_X12_197_0 E hG dX12_makeGrammar_236 (fun H locs hG => ?_)
    refine lv_aload_n E.1 E.2.1 dX12_makeGrammar_239 rfl (lv_at hl 0 rfl) ?_
    obtain ⟨r240, σ240, hcl, hf⟩ := bd_some hf
    refine cl_V (rest := []) (st1 := [.int r240]) (As := []) E hG (c_m_X12_bestPair hcl) Wd_1002 mi_X12_bestPair ⟨Nat.le_of_ble_eq_true rfl, Nat.le_of_ble_eq_true rfl, Nat.zero_le _, Nat.zero_le _⟩ 13 0 rfl rfl rfl hl.1 rfl (Nat.le_of_ble_eq_true rfl) dX12_makeGrammar_240 rfl (fun H locs hG => ?_)
    refine lv_istore_n (lv' := [(1, .int r240), (0, .ref (ad 0)), (2, .int x2), (3, .int x3), (4, .int x4), (5, .int x5)]) E.1 E.2.1 dX12_makeGrammar_243 rfl hl (by decide) rfl (fun ls hl => ?_)
    refine lv_goto (tgt := 74) E.1 E.2.1 dX12_makeGrammar_244 (by decide) ?_
    exact hg74 _ _ hf _ _ _ hG (lv_sub hl [1, 0] rfl)
  · replace hf := (if_neg hc).symm.trans hf
    refine lv_iload E.1 E.2.1 dX12_makeGrammar_131 (lv_at hl 4 rfl) ?_
    refine lv_iconst (v := (1 : Int32)) E.1 E.2.1 dX12_makeGrammar_133 (by decide) ?_
    refine lv_iadd E.1 E.2.1 dX12_makeGrammar_134 ?_
    refine lv_aload_n E.1 E.2.1 dX12_makeGrammar_135 rfl (lv_at hl 0 rfl) ?_
    refine fg_m_X12_187_0 E hG dX12_makeGrammar_136 ?_
    refine lv_icmp_ge (tgt := 170) E.1 E.2.1 dX12_makeGrammar_139 (by decide) (fun hc => ?_) (fun hc => ?_)
    · replace hf := (if_pos hc).symm.trans hf
      exact k_m_X12_makeGrammar_170 E hr hlk g74 hg74 g122 hg122 _ _ _ _ _ hf _ _ _ hG (lv_sub hl [0, 1, 2, 3, 4] rfl)
    · replace hf := (if_neg hc).symm.trans hf
      refine lv_aload_n E.1 E.2.1 dX12_makeGrammar_142 rfl (lv_at hl 0 rfl) ?_
      refine fg_m_X12_43_0 E hG dX12_makeGrammar_143 ?_
      refine lv_iload E.1 E.2.1 dX12_makeGrammar_146 (lv_at hl 4 rfl) ?_
      obtain ⟨hin, hf⟩ := gd_some hf
      refine al_m_12 E hG hin dX12_makeGrammar_148 ?_
      refine lv_iload_n E.1 E.2.1 dX12_makeGrammar_149 rfl (lv_at hl 1 rfl) ?_
      refine lv_icmp_ne (tgt := 170) E.1 E.2.1 dX12_makeGrammar_150 (by decide) (fun hc => ?_) (fun hc => ?_)
      · replace hf := (if_neg hc).symm.trans hf
        exact k_m_X12_makeGrammar_170 E hr hlk g74 hg74 g122 hg122 _ _ _ _ _ hf _ _ _ hG (lv_sub hl [0, 1, 2, 3, 4] rfl)
      · replace hf := (if_pos hc).symm.trans hf
        refine lv_aload_n E.1 E.2.1 dX12_makeGrammar_153 rfl (lv_at hl 0 rfl) ?_
        refine fg_m_X12_43_0 E hG dX12_makeGrammar_154 ?_
        refine lv_iload E.1 E.2.1 dX12_makeGrammar_157 (lv_at hl 4 rfl) ?_
        refine lv_iconst (v := (1 : Int32)) E.1 E.2.1 dX12_makeGrammar_159 (by decide) ?_
        refine lv_iadd E.1 E.2.1 dX12_makeGrammar_160 ?_
        obtain ⟨hin, hf⟩ := gd_some hf
        refine al_m_12 E hG hin dX12_makeGrammar_161 ?_
        refine lv_iload_n E.1 E.2.1 dX12_makeGrammar_162 rfl (lv_at hl 2 rfl) ?_
        refine lv_icmp_ne (tgt := 170) E.1 E.2.1 dX12_makeGrammar_163 (by decide) (fun hc => ?_) (fun hc => ?_)
        · replace hf := (if_neg hc).symm.trans hf
          exact k_m_X12_makeGrammar_170 E hr hlk g74 hg74 g122 hg122 _ _ _ _ _ hf _ _ _ hG (lv_sub hl [0, 1, 2, 3, 4] rfl)
        · replace hf := (if_pos hc).symm.trans hf
          refine lv_iconst (v := (1 : Int32)) E.1 E.2.1 dX12_makeGrammar_166 (by decide) ?_
          refine lv_goto (tgt := 171) E.1 E.2.1 dX12_makeGrammar_167 (by decide) ?_
          exact k_m_X12_makeGrammar_171 E hr hlk g74 hg74 g122 hg122 _ _ _ _ _ _ hf _ _ _ hG (lv_sub hl [0, 1, 2, 3, 4] rfl)

set_option maxHeartbeats 4000000 in
set_option maxRecDepth 100000 in
theorem k_m_X12_makeGrammar_74 {p : Program} {l : Launch} {e : Env} {s : State} {m : MethodId} {args : Array Value} {below : List Frame} {meth : Method} {c : Code} {D : va_G} {ad : Nat → Nat} {cy : ClassId} {r : Unit} {σ' : SS} (E : CallFix p m c cX12_makeGrammar 7 s args TT yX12_makeGrammar.cls) (hr : meth.sig.returnType = none) (hlk : meth.locks = false) (g74 : SS → Int32 → Option (Unit × SS)) (hg74 : ∀ (σ : SS) (x1 : Int32), g74 σ x1 = some (r, σ') → At p l e 2 51 s m args below meth c D (mw ad cy) (mas ad) cy (none) σ' 7 74 [(0, .ref (ad 0)), (1, .int x1)] [] σ) : ∀ (σ : SS) (x1 : Int32), f_m_X12_makeGrammar_74 g74 σ x1 = some (r, σ') → At p l e 2 51 s m args below meth c D (mw ad cy) (mas ad) cy (none) σ' 7 74 [(0, .ref (ad 0)), (1, .int x1)] [] σ := by
  intro σ x1 hf H locs ls hG hl
  unfold f_m_X12_makeGrammar_74 at hf
  refine lv_iload_n E.1 E.2.1 dX12_makeGrammar_74 rfl (lv_at hl 1 rfl) ?_
  refine lv_bipush (v := (-2 : Int32)) E.1 E.2.1 dX12_makeGrammar_75 (by decide) ?_
  refine lv_icmp_eq (tgt := 247) E.1 E.2.1 dX12_makeGrammar_77 (by decide) (fun hc => ?_) (fun hc => ?_)
  · replace hf := (if_pos hc).symm.trans hf
    exact r_v E hr hlk hG hf dX12_makeGrammar_247
  · replace hf := (if_neg hc).symm.trans hf
    refine lv_aload_n E.1 E.2.1 dX12_makeGrammar_80 rfl (lv_at hl 0 rfl) ?_
    refine fg_m_X12_43_0 E hG dX12_makeGrammar_81 ?_
    refine lv_iload_n E.1 E.2.1 dX12_makeGrammar_84 rfl (lv_at hl 1 rfl) ?_
    obtain ⟨hin, hf⟩ := gd_some hf
    refine al_m_12 E hG hin dX12_makeGrammar_85 ?_
    refine lv_istore_n (lv' := [(2, .int (σ.2 11 (Int32.toNatClampNeg x1))), (0, .ref (ad 0)), (1, .int x1)]) E.1 E.2.1 dX12_makeGrammar_86 rfl hl (by decide) rfl (fun ls hl => ?_)
    refine lv_aload_n E.1 E.2.1 dX12_makeGrammar_87 rfl (lv_at hl 1 rfl) ?_
    refine fg_m_X12_43_0 E hG dX12_makeGrammar_88 ?_
    refine lv_iload_n E.1 E.2.1 dX12_makeGrammar_91 rfl (lv_at hl 2 rfl) ?_
    refine lv_iconst (v := (1 : Int32)) E.1 E.2.1 dX12_makeGrammar_92 (by decide) ?_
    refine lv_iadd E.1 E.2.1 dX12_makeGrammar_93 ?_
    obtain ⟨hin, hf⟩ := gd_some hf
    refine al_m_12 E hG hin dX12_makeGrammar_94 ?_
    refine lv_istore_n (lv' := [(3, .int (σ.2 11 (Int32.toNatClampNeg (x1 + (1 : Int32))))), (2, .int (σ.2 11 (Int32.toNatClampNeg x1))), (0, .ref (ad 0)), (1, .int x1)]) E.1 E.2.1 dX12_makeGrammar_95 rfl hl (by decide) rfl (fun ls hl => ?_)
    refine lv_aload_n E.1 E.2.1 dX12_makeGrammar_96 rfl (lv_at hl 2 rfl) ?_
    refine fg_m_X12_46_0 E hG dX12_makeGrammar_97 ?_
    refine lv_aload_n E.1 E.2.1 dX12_makeGrammar_100 rfl (lv_at hl 2 rfl) ?_
    refine fg_m_X12_197_0 E hG dX12_makeGrammar_101 ?_
    refine lv_iload_n E.1 E.2.1 dX12_makeGrammar_104 rfl (lv_at hl 1 rfl) ?_
    obtain ⟨hin, hf⟩ := gd_some hf
    refine as_m_13 E hG hin dX12_makeGrammar_105 (fun H locs hG => ?_)
    refine lv_aload_n E.1 E.2.1 dX12_makeGrammar_106 rfl (lv_at hl 2 rfl) ?_
    refine fg_m_X12_49_0 E hG dX12_makeGrammar_107 ?_
    refine lv_aload_n E.1 E.2.1 dX12_makeGrammar_110 rfl (lv_at hl 2 rfl) ?_
    refine fg_m_X12_197_0 E hG dX12_makeGrammar_111 ?_
    refine lv_iload_n E.1 E.2.1 dX12_makeGrammar_114 rfl (lv_at hl 0 rfl) ?_
    obtain ⟨hin, hf⟩ := gd_some hf
    refine as_m_14 E hG hin dX12_makeGrammar_115 (fun H locs hG => ?_)
    refine lv_iconst (v := (0 : Int32)) E.1 E.2.1 dX12_makeGrammar_116 (by decide) ?_
    refine lv_istore (lv' := [(4, .int (0 : Int32)), (3, .int (σ.2 11 (Int32.toNatClampNeg (x1 + (1 : Int32))))), (2, .int (σ.2 11 (Int32.toNatClampNeg x1))), (0, .ref (ad 0)), (1, .int x1)]) E.1 E.2.1 dX12_makeGrammar_117 hl (by decide) rfl (fun ls hl => ?_)
    refine lv_iconst (v := (0 : Int32)) E.1 E.2.1 dX12_makeGrammar_119 (by decide) ?_
    refine lv_istore (lv' := [(5, .int (0 : Int32)), (4, .int (0 : Int32)), (3, .int (σ.2 11 (Int32.toNatClampNeg (x1 + (1 : Int32))))), (2, .int (σ.2 11 (Int32.toNatClampNeg x1))), (0, .ref (ad 0)), (1, .int x1)]) E.1 E.2.1 dX12_makeGrammar_120 hl (by decide) rfl (fun ls hl => ?_)
    exact L4_at (P := fun σ x2 x3 x4 x5 => At p l e 2 51 s m args below meth c D (mw ad cy) (mas ad) cy (none) σ' 7 122 [(0, .ref (ad 0)), (2, .int x2), (3, .int x3), (4, .int x4), (5, .int x5)] [] σ) (fun g hg => k_m_X12_makeGrammar_122 E hr hlk g74 hg74 g hg) FUEL _ _ _ _ _ hf _ _ _ hG (lv_sub hl [4, 3, 2, 1, 0] rfl)

set_option maxHeartbeats 4000000 in
set_option maxRecDepth 100000 in
theorem k_m_X12_makeGrammar_31 {p : Program} {l : Launch} {e : Env} {s : State} {m : MethodId} {args : Array Value} {below : List Frame} {meth : Method} {c : Code} {D : va_G} {ad : Nat → Nat} {cy : ClassId} {r : Unit} {σ' : SS} (E : CallFix p m c cX12_makeGrammar 7 s args TT yX12_makeGrammar.cls) (hr : meth.sig.returnType = none) (hlk : meth.locks = false) (g31 : SS → Int32 → Option (Unit × SS)) (hg31 : ∀ (σ : SS) (x1 : Int32), g31 σ x1 = some (r, σ') → At p l e 2 51 s m args below meth c D (mw ad cy) (mas ad) cy (none) σ' 7 31 [(0, .ref (ad 0)), (1, .int x1)] [] σ) : ∀ (σ : SS) (x1 : Int32), f_m_X12_makeGrammar_31 g31 σ x1 = some (r, σ') → At p l e 2 51 s m args below meth c D (mw ad cy) (mas ad) cy (none) σ' 7 31 [(0, .ref (ad 0)), (1, .int x1)] [] σ := by
  intro σ x1 hf H locs ls hG hl
  unfold f_m_X12_makeGrammar_31 at hf
  refine lv_iload_n E.1 E.2.1 dX12_makeGrammar_31 rfl (lv_at hl 1 rfl) ?_
  refine lv_aload_n E.1 E.2.1 dX12_makeGrammar_32 rfl (lv_at hl 0 rfl) ?_
  refine fg_m_X12_72_0 E hG dX12_makeGrammar_33 ?_
  refine lv_icmp_ge (tgt := 69) E.1 E.2.1 dX12_makeGrammar_36 (by decide) (fun hc => ?_) (fun hc => ?_)
  · replace hf := (if_pos hc).symm.trans hf
    refine lv_aload_n E.1 E.2.1 dX12_makeGrammar_69 rfl (lv_at hl 0 rfl) ?_
    obtain ⟨r70, σ70, hcl, hf⟩ := bd_some hf
    refine cl_V (rest := []) (st1 := [.int r70]) (As := []) E hG (c_m_X12_bestPair hcl) Wd_1002 mi_X12_bestPair ⟨Nat.le_of_ble_eq_true rfl, Nat.le_of_ble_eq_true rfl, Nat.zero_le _, Nat.zero_le _⟩ 13 0 rfl rfl rfl hl.1 rfl (Nat.le_of_ble_eq_true rfl) dX12_makeGrammar_70 rfl (fun H locs hG => ?_)
    refine lv_istore_n (lv' := [(1, .int r70), (0, .ref (ad 0))]) E.1 E.2.1 dX12_makeGrammar_73 rfl hl (by decide) rfl (fun ls hl => ?_)
    exact L1_at (P := fun σ x1 => At p l e 2 51 s m args below meth c D (mw ad cy) (mas ad) cy (none) σ' 7 74 [(0, .ref (ad 0)), (1, .int x1)] [] σ) (fun g hg => k_m_X12_makeGrammar_74 E hr hlk g hg) FUEL _ _ hf _ _ _ hG (lv_sub hl [1, 0] rfl)
  · replace hf := (if_neg hc).symm.trans hf
    refine lv_aload_n E.1 E.2.1 dX12_makeGrammar_39 rfl (lv_at hl 0 rfl) ?_
    refine fg_m_X12_56_0 E hG dX12_makeGrammar_40 ?_
    refine lv_iload_n E.1 E.2.1 dX12_makeGrammar_43 rfl (lv_at hl 1 rfl) ?_
    refine lv_aload_n E.1 E.2.1 dX12_makeGrammar_44 rfl (lv_at hl 0 rfl) ?_
    refine fg_m_X12_7_0 E hG dX12_makeGrammar_45 ?_
    refine lv_iload_n E.1 E.2.1 dX12_makeGrammar_48 rfl (lv_at hl 1 rfl) ?_
    obtain ⟨hin, hf⟩ := gd_some hf
    refine al_m_1 E hG hin dX12_makeGrammar_49 ?_
    obtain ⟨hin, hf⟩ := gd_some hf
    refine as_m_15 E hG hin dX12_makeGrammar_50 (fun H locs hG => ?_)
    refine lv_aload_n E.1 E.2.1 dX12_makeGrammar_51 rfl (lv_at hl 0 rfl) ?_
    refine fg_m_X12_43_0 E hG dX12_makeGrammar_52 ?_
    refine lv_iload_n E.1 E.2.1 dX12_makeGrammar_55 rfl (lv_at hl 1 rfl) ?_
    refine lv_aload_n E.1 E.2.1 dX12_makeGrammar_56 rfl (lv_at hl 0 rfl) ?_
    refine fg_m_X12_7_0 E hG dX12_makeGrammar_57 ?_
    refine lv_iload_n E.1 E.2.1 dX12_makeGrammar_60 rfl (lv_at hl 1 rfl) ?_
    obtain ⟨hin, hf⟩ := gd_some hf
    refine al_m_1 E hG hin dX12_makeGrammar_61 ?_
    obtain ⟨hin, hf⟩ := gd_some hf
    refine as_m_12 E hG hin dX12_makeGrammar_62 (fun H locs hG => ?_)
    refine lv_iinc (v := (x1 + (1 : Int32))) (lv' := [(1, .int (x1 + (1 : Int32))), (0, .ref (ad 0))]) E.1 E.2.1 dX12_makeGrammar_63 hl (k := 1) rfl rfl (by decide) rfl (fun ls hl => ?_)
    refine lv_goto (tgt := 31) E.1 E.2.1 dX12_makeGrammar_66 (by decide) ?_
    exact hg31 _ _ hf _ _ _ hG (lv_sub hl [1, 0] rfl)

set_option maxHeartbeats 4000000 in
set_option maxRecDepth 100000 in
theorem c_m_X12_makeGrammar {l : Launch} {D : va_G} {ad : Nat → Nat} {cy : ClassId} {σ : SS} {r : Unit} {σ' : SS} (hf : f_m_X12_makeGrammar σ = some (r, σ')) : Ctr l D (mw ad cy) (mas ad) cy yX12_makeGrammar cX12_makeGrammar 7 none 2 51 [.ref (ad 0)] σ (none) σ' := by
  refine Ctr.of (mw_as ad cy) rfl (Nat.le_of_ble_eq_true rfl) (fun p e s m args below meth c ls E hr hlk hl hG => ?_)
  have hl : lv_has ls 7 [(0, .ref (ad 0))] := hl
  unfold f_m_X12_makeGrammar at hf
  refine lv_aload_n E.1 E.2.1 dX12_makeGrammar_0 rfl (lv_at hl 0 rfl) ?_
  obtain ⟨r1, σ1, hcl, hf⟩ := bd_some hf
  refine cl_V (rest := []) (st1 := [.int r1]) (As := []) E hG (c_m_X12_isMade hcl) Wd_998 mi_X12_isMade ⟨Nat.le_of_ble_eq_true rfl, Nat.le_of_ble_eq_true rfl, Nat.zero_le _, Nat.zero_le _⟩ 13 0 rfl rfl rfl hl.1 rfl (Nat.le_of_ble_eq_true rfl) dX12_makeGrammar_1 rfl (fun H locs hG => ?_)
  refine lv_if_eq (tgt := 8) E.1 E.2.1 dX12_makeGrammar_4 (by decide) (fun hc => ?_) (fun hc => ?_)
  · replace hf := (if_pos hc).symm.trans hf
    refine lv_aload_n E.1 E.2.1 dX12_makeGrammar_8 rfl (lv_at hl 0 rfl) ?_
    refine lv_aload_n E.1 E.2.1 dX12_makeGrammar_9 rfl (lv_at hl 0 rfl) ?_
    refine fg_m_X12_72_0 E hG dX12_makeGrammar_10 ?_
    refine fp_m_X12_52_0 E hG dX12_makeGrammar_13 (fun H locs hG => ?_)
    refine lv_aload_n E.1 E.2.1 dX12_makeGrammar_16 rfl (lv_at hl 0 rfl) ?_
    refine lv_aload_n E.1 E.2.1 dX12_makeGrammar_17 rfl (lv_at hl 0 rfl) ?_
    refine fg_m_X12_72_0 E hG dX12_makeGrammar_18 ?_
    refine fp_m_X12_187_0 E hG dX12_makeGrammar_21 (fun H locs hG => ?_)
    refine lv_aload_n E.1 E.2.1 dX12_makeGrammar_24 rfl (lv_at hl 0 rfl) ?_
    refine lv_iconst (v := (0 : Int32)) E.1 E.2.1 dX12_makeGrammar_25 (by decide) ?_
    refine fp_m_X12_197_0 E hG dX12_makeGrammar_26 (fun H locs hG => ?_)
    refine lv_iconst (v := (0 : Int32)) E.1 E.2.1 dX12_makeGrammar_29 (by decide) ?_
    refine lv_istore_n (lv' := [(1, .int (0 : Int32)), (0, .ref (ad 0))]) E.1 E.2.1 dX12_makeGrammar_30 rfl hl (by decide) rfl (fun ls hl => ?_)
    exact L1_at (P := fun σ x1 => At p l e 2 51 s m args below meth c D (mw ad cy) (mas ad) cy (none) σ' 7 31 [(0, .ref (ad 0)), (1, .int x1)] [] σ) (fun g hg => k_m_X12_makeGrammar_31 E hr hlk g hg) FUEL _ _ hf _ _ _ hG (lv_sub hl [1, 0] rfl)
  · replace hf := (if_neg hc).symm.trans hf
    exact r_v E hr hlk hG hf dX12_makeGrammar_7

set_option maxHeartbeats 4000000 in
set_option maxRecDepth 100000 in
theorem c_m_X12_grammar {l : Launch} {D : va_G} {ad : Nat → Nat} {cy : ClassId} {σ : SS} {x1 : Int32} {r : Int32} {σ' : SS} (hf : f_m_X12_grammar σ x1 = some (r, σ')) : Ctr l D (mw ad cy) (mas ad) cy yX12_grammar cX12_grammar 2 (some FieldType.int) 3 77 [.ref (ad 0), .int x1] σ (some (.int r)) σ' := by
  refine Ctr.of (mw_as ad cy) rfl (Nat.le_of_ble_eq_true rfl) (fun p e s m args below meth c ls E hr hlk hl hG => ?_)
  have hl : lv_has ls 2 [(0, .ref (ad 0)), (1, .int x1)] := hl
  unfold f_m_X12_grammar at hf
  refine lv_aload_n E.1 E.2.1 dX12_grammar_0 rfl (lv_at hl 0 rfl) ?_
  refine lv_iconst (v := (0 : Int32)) E.1 E.2.1 dX12_grammar_1 (by decide) ?_
  refine fp_m_X12_59_0 E hG dX12_grammar_2 (fun H locs hG => ?_)
  refine lv_iload_n E.1 E.2.1 dX12_grammar_5 rfl (lv_at hl 1 rfl) ?_
  refine lv_i2l E.1 E.2.1 dX12_grammar_6 rfl ?_
  refine lv_lconst (v := (0 : Int64)) E.1 E.2.1 dX12_grammar_7 (by decide) ?_
  refine lv_ldc2 E.1 E.2.1 E.2.2.2.1 (E.2.2.2.2 _ Wd_883) dX12_grammar_8 ?_
  obtain ⟨r11, σ11, hcl, hf⟩ := bd_some hf
  refine cl_S (rest := []) (st1 := [.int r11]) (As := [.long (Int32.toInt64 x1), .long (0 : Int64), .long (2 : Int64)]) E hG (c_m_X12_in hcl) Wd_837 mi_X12_in ⟨Nat.le_of_ble_eq_true rfl, Nat.le_of_ble_eq_true rfl, Nat.zero_le _, Nat.zero_le _⟩ rfl hl.1 rfl (Nat.le_of_ble_eq_true rfl) dX12_grammar_11 rfl (fun H locs hG => ?_)
  refine lv_if_ne (tgt := 19) E.1 E.2.1 dX12_grammar_14 (by decide) (fun hc => ?_) (fun hc => ?_)
  · replace hf := (if_neg hc).symm.trans hf
    refine lv_aload_n E.1 E.2.1 dX12_grammar_19 rfl (lv_at hl 0 rfl) ?_
    obtain ⟨r20, σ20, hcl, hf⟩ := bd_some hf
    refine cl_V (rest := []) (st1 := []) (As := []) E hG (c_m_X12_makeGrammar hcl) Wd_994 mi_X12_makeGrammar ⟨Nat.le_of_ble_eq_true rfl, Nat.le_of_ble_eq_true rfl, Nat.zero_le _, Nat.zero_le _⟩ 13 0 rfl rfl rfl hl.1 rfl (Nat.le_of_ble_eq_true rfl) dX12_grammar_20 rfl (fun H locs hG => ?_)
    refine lv_iload_n E.1 E.2.1 dX12_grammar_23 rfl (lv_at hl 1 rfl) ?_
    refine lv_if_ne (tgt := 41) E.1 E.2.1 dX12_grammar_24 (by decide) (fun hc => ?_) (fun hc => ?_)
    · replace hf := (if_neg hc).symm.trans hf
      refine lv_iload_n E.1 E.2.1 dX12_grammar_41 rfl (lv_at hl 1 rfl) ?_
      refine lv_iconst (v := (1 : Int32)) E.1 E.2.1 dX12_grammar_42 (by decide) ?_
      refine lv_icmp_ne (tgt := 53) E.1 E.2.1 dX12_grammar_43 (by decide) (fun hc => ?_) (fun hc => ?_)
      · replace hf := (if_neg hc).symm.trans hf
        refine lv_aload_n E.1 E.2.1 dX12_grammar_53 rfl (lv_at hl 0 rfl) ?_
        refine fg_m_X12_187_0 E hG dX12_grammar_54 ?_
        exact r_i E hr hlk hG hf dX12_grammar_57
      · replace hf := (if_pos hc).symm.trans hf
        refine lv_aload_n E.1 E.2.1 dX12_grammar_46 rfl (lv_at hl 0 rfl) ?_
        refine fg_m_X12_197_0 E hG dX12_grammar_47 ?_
        refine lv_goto (tgt := 57) E.1 E.2.1 dX12_grammar_50 (by decide) ?_
        exact r_i E hr hlk hG hf dX12_grammar_57
    · replace hf := (if_pos hc).symm.trans hf
      refine lv_aload_n E.1 E.2.1 dX12_grammar_27 rfl (lv_at hl 0 rfl) ?_
      refine fg_m_X12_187_0 E hG dX12_grammar_28 ?_
      refine lv_iconst (v := (2 : Int32)) E.1 E.2.1 dX12_grammar_31 (by decide) ?_
      refine lv_aload_n E.1 E.2.1 dX12_grammar_32 rfl (lv_at hl 0 rfl) ?_
      refine fg_m_X12_197_0 E hG dX12_grammar_33 ?_
      refine lv_imul E.1 E.2.1 dX12_grammar_36 ?_
      refine lv_iadd E.1 E.2.1 dX12_grammar_37 ?_
      refine lv_goto (tgt := 57) E.1 E.2.1 dX12_grammar_38 (by decide) ?_
      exact r_i E hr hlk hG hf dX12_grammar_57
  · replace hf := (if_pos hc).symm.trans hf
    refine lv_iconst (v := (-1 : Int32)) E.1 E.2.1 dX12_grammar_17 (by decide) ?_
    exact r_i E hr hlk hG hf dX12_grammar_18

set_option maxHeartbeats 4000000 in
set_option maxRecDepth 100000 in
theorem c_m_X12_rule {l : Launch} {D : va_G} {ad : Nat → Nat} {cy : ClassId} {σ : SS} {x1 : Int32} {x2 : Int32} {r : Int32} {σ' : SS} (hf : f_m_X12_rule σ x1 x2 = some (r, σ')) : Ctr l D (mw ad cy) (mas ad) cy yX12_rule cX12_rule 3 (some FieldType.int) 3 77 [.ref (ad 0), .int x1, .int x2] σ (some (.int r)) σ' := by
  refine Ctr.of (mw_as ad cy) rfl (Nat.le_of_ble_eq_true rfl) (fun p e s m args below meth c ls E hr hlk hl hG => ?_)
  have hl : lv_has ls 3 [(0, .ref (ad 0)), (1, .int x1), (2, .int x2)] := hl
  unfold f_m_X12_rule at hf
  refine lv_aload_n E.1 E.2.1 dX12_rule_0 rfl (lv_at hl 0 rfl) ?_
  refine lv_iconst (v := (0 : Int32)) E.1 E.2.1 dX12_rule_1 (by decide) ?_
  refine fp_m_X12_59_0 E hG dX12_rule_2 (fun H locs hG => ?_)
  refine lv_iload_n E.1 E.2.1 dX12_rule_5 rfl (lv_at hl 2 rfl) ?_
  obtain ⟨r6, σ6, hcl, hf⟩ := bd_some hf
  refine cl_S (rest := []) (st1 := [.int r6]) (As := [.int x2]) E hG (c_m_X12_isKind hcl) Wd_939 mi_X12_isKind ⟨Nat.le_of_ble_eq_true rfl, Nat.le_of_ble_eq_true rfl, Nat.zero_le _, Nat.zero_le _⟩ rfl hl.1 rfl (Nat.le_of_ble_eq_true rfl) dX12_rule_6 rfl (fun H locs hG => ?_)
  refine lv_if_ne (tgt := 14) E.1 E.2.1 dX12_rule_9 (by decide) (fun hc => ?_) (fun hc => ?_)
  · replace hf := (if_neg hc).symm.trans hf
    refine lv_aload_n E.1 E.2.1 dX12_rule_14 rfl (lv_at hl 0 rfl) ?_
    obtain ⟨r15, σ15, hcl, hf⟩ := bd_some hf
    refine cl_V (rest := []) (st1 := []) (As := []) E hG (c_m_X12_makeGrammar hcl) Wd_994 mi_X12_makeGrammar ⟨Nat.le_of_ble_eq_true rfl, Nat.le_of_ble_eq_true rfl, Nat.zero_le _, Nat.zero_le _⟩ 13 0 rfl rfl rfl hl.1 rfl (Nat.le_of_ble_eq_true rfl) dX12_rule_15 rfl (fun H locs hG => ?_)
    refine lv_iload_n E.1 E.2.1 dX12_rule_18 rfl (lv_at hl 1 rfl) ?_
    refine lv_i2l E.1 E.2.1 dX12_rule_19 rfl ?_
    refine lv_ldc2 E.1 E.2.1 E.2.2.2.1 (E.2.2.2.2 _ Wd_1014) dX12_rule_20 ?_
    refine lv_bipush (v := (16 : Int32)) E.1 E.2.1 dX12_rule_23 (by decide) ?_
    refine lv_aload_n E.1 E.2.1 dX12_rule_25 rfl (lv_at hl 0 rfl) ?_
    refine fg_m_X12_197_0 E hG dX12_rule_26 ?_
    refine lv_iadd E.1 E.2.1 dX12_rule_29 ?_
    refine lv_iconst (v := (1 : Int32)) E.1 E.2.1 dX12_rule_30 (by decide) ?_
    refine lv_isub E.1 E.2.1 dX12_rule_31 ?_
    refine lv_i2l E.1 E.2.1 dX12_rule_32 rfl ?_
    obtain ⟨r33, σ33, hcl, hf⟩ := bd_some hf
    refine cl_S (rest := []) (st1 := [.int r33]) (As := [.long (Int32.toInt64 x1), .long (16 : Int64), .long (Int32.toInt64 (((16 : Int32) + (σ15.1 8)) - (1 : Int32)))]) E hG (c_m_X12_in hcl) Wd_837 mi_X12_in ⟨Nat.le_of_ble_eq_true rfl, Nat.le_of_ble_eq_true rfl, Nat.zero_le _, Nat.zero_le _⟩ rfl hl.1 rfl (Nat.le_of_ble_eq_true rfl) dX12_rule_33 rfl (fun H locs hG => ?_)
    refine lv_if_ne (tgt := 41) E.1 E.2.1 dX12_rule_36 (by decide) (fun hc => ?_) (fun hc => ?_)
    · replace hf := (if_neg hc).symm.trans hf
      refine lv_iload_n E.1 E.2.1 dX12_rule_41 rfl (lv_at hl 2 rfl) ?_
      refine lv_if_ne (tgt := 57) E.1 E.2.1 dX12_rule_42 (by decide) (fun hc => ?_) (fun hc => ?_)
      · replace hf := (if_neg hc).symm.trans hf
        refine lv_aload_n E.1 E.2.1 dX12_rule_57 rfl (lv_at hl 0 rfl) ?_
        refine fg_m_X12_49_0 E hG dX12_rule_58 ?_
        refine lv_iload_n E.1 E.2.1 dX12_rule_61 rfl (lv_at hl 1 rfl) ?_
        refine lv_bipush (v := (16 : Int32)) E.1 E.2.1 dX12_rule_62 (by decide) ?_
        refine lv_isub E.1 E.2.1 dX12_rule_64 ?_
        obtain ⟨hin, hf⟩ := gd_some hf
        refine al_m_14 E hG hin dX12_rule_65 ?_
        exact r_i E hr hlk hG hf dX12_rule_66
      · replace hf := (if_pos hc).symm.trans hf
        refine lv_aload_n E.1 E.2.1 dX12_rule_45 rfl (lv_at hl 0 rfl) ?_
        refine fg_m_X12_46_0 E hG dX12_rule_46 ?_
        refine lv_iload_n E.1 E.2.1 dX12_rule_49 rfl (lv_at hl 1 rfl) ?_
        refine lv_bipush (v := (16 : Int32)) E.1 E.2.1 dX12_rule_50 (by decide) ?_
        refine lv_isub E.1 E.2.1 dX12_rule_52 ?_
        obtain ⟨hin, hf⟩ := gd_some hf
        refine al_m_13 E hG hin dX12_rule_53 ?_
        refine lv_goto (tgt := 66) E.1 E.2.1 dX12_rule_54 (by decide) ?_
        exact r_i E hr hlk hG hf dX12_rule_66
    · replace hf := (if_pos hc).symm.trans hf
      refine lv_iconst (v := (-1 : Int32)) E.1 E.2.1 dX12_rule_39 (by decide) ?_
      exact r_i E hr hlk hG hf dX12_rule_40
  · replace hf := (if_pos hc).symm.trans hf
    refine lv_iconst (v := (-1 : Int32)) E.1 E.2.1 dX12_rule_12 (by decide) ?_
    exact r_i E hr hlk hG hf dX12_rule_13

set_option maxHeartbeats 4000000 in
set_option maxRecDepth 100000 in
theorem k_m_X12_symbol_26 {p : Program} {l : Launch} {e : Env} {s : State} {m : MethodId} {args : Array Value} {below : List Frame} {meth : Method} {c : Code} {D : va_G} {ad : Nat → Nat} {cy : ClassId} {r : Int32} {σ' : SS} (E : CallFix p m c cX12_symbol 2 s args TT yX12_symbol.cls) (hr : meth.sig.returnType = (some FieldType.int)) (hlk : meth.locks = false) : ∀ (σ : SS) (x1 : Int32) (y1 : Int32), f_m_X12_symbol_26 σ x1 y1 = some (r, σ') → At p l e 3 77 s m args below meth c D (mw ad cy) (mas ad) cy (some (.int r)) σ' 2 26 [(0, .ref (ad 0)), (1, .int x1)] [.int y1, .ref (ad 0)] σ := by
  intro σ x1 y1 hf H locs ls hG hl
  unfold f_m_X12_symbol_26 at hf
  refine fp_m_X12_59_0 E hG dX12_symbol_26 (fun H locs hG => ?_)
  refine lv_aload_n E.1 E.2.1 dX12_symbol_29 rfl (lv_at hl 0 rfl) ?_
  refine fg_m_X12_59_0 E hG dX12_symbol_30 ?_
  refine lv_if_ne (tgt := 45) E.1 E.2.1 dX12_symbol_33 (by decide) (fun hc => ?_) (fun hc => ?_)
  · replace hf := (if_neg hc).symm.trans hf
    refine lv_iconst (v := (0 : Int32)) E.1 E.2.1 dX12_symbol_45 (by decide) ?_
    exact r_i E hr hlk hG hf dX12_symbol_46
  · replace hf := (if_pos hc).symm.trans hf
    refine lv_aload_n E.1 E.2.1 dX12_symbol_36 rfl (lv_at hl 0 rfl) ?_
    refine fg_m_X12_43_0 E hG dX12_symbol_37 ?_
    refine lv_iload_n E.1 E.2.1 dX12_symbol_40 rfl (lv_at hl 1 rfl) ?_
    obtain ⟨hin, hf⟩ := gd_some hf
    refine al_m_12 E hG hin dX12_symbol_41 ?_
    refine lv_goto (tgt := 46) E.1 E.2.1 dX12_symbol_42 (by decide) ?_
    exact r_i E hr hlk hG hf dX12_symbol_46

set_option maxHeartbeats 4000000 in
set_option maxRecDepth 100000 in
theorem c_m_X12_symbol {l : Launch} {D : va_G} {ad : Nat → Nat} {cy : ClassId} {σ : SS} {x1 : Int32} {r : Int32} {σ' : SS} (hf : f_m_X12_symbol σ x1 = some (r, σ')) : Ctr l D (mw ad cy) (mas ad) cy yX12_symbol cX12_symbol 2 (some FieldType.int) 3 77 [.ref (ad 0), .int x1] σ (some (.int r)) σ' := by
  refine Ctr.of (mw_as ad cy) rfl (Nat.le_of_ble_eq_true rfl) (fun p e s m args below meth c ls E hr hlk hl hG => ?_)
  have hl : lv_has ls 2 [(0, .ref (ad 0)), (1, .int x1)] := hl
  unfold f_m_X12_symbol at hf
  refine lv_aload_n E.1 E.2.1 dX12_symbol_0 rfl (lv_at hl 0 rfl) ?_
  obtain ⟨r1, σ1, hcl, hf⟩ := bd_some hf
  refine cl_V (rest := []) (st1 := []) (As := []) E hG (c_m_X12_makeGrammar hcl) Wd_994 mi_X12_makeGrammar ⟨Nat.le_of_ble_eq_true rfl, Nat.le_of_ble_eq_true rfl, Nat.zero_le _, Nat.zero_le _⟩ 13 0 rfl rfl rfl hl.1 rfl (Nat.le_of_ble_eq_true rfl) dX12_symbol_1 rfl (fun H locs hG => ?_)
  refine lv_aload_n E.1 E.2.1 dX12_symbol_4 rfl (lv_at hl 0 rfl) ?_
  refine lv_iload_n E.1 E.2.1 dX12_symbol_5 rfl (lv_at hl 1 rfl) ?_
  refine lv_i2l E.1 E.2.1 dX12_symbol_6 rfl ?_
  refine lv_lconst (v := (0 : Int64)) E.1 E.2.1 dX12_symbol_7 (by decide) ?_
  refine lv_aload_n E.1 E.2.1 dX12_symbol_8 rfl (lv_at hl 0 rfl) ?_
  refine fg_m_X12_187_0 E hG dX12_symbol_9 ?_
  refine lv_iconst (v := (1 : Int32)) E.1 E.2.1 dX12_symbol_12 (by decide) ?_
  refine lv_isub E.1 E.2.1 dX12_symbol_13 ?_
  refine lv_i2l E.1 E.2.1 dX12_symbol_14 rfl ?_
  obtain ⟨r15, σ15, hcl, hf⟩ := bd_some hf
  refine cl_S (rest := [.ref (ad 0)]) (st1 := [.int r15, .ref (ad 0)]) (As := [.long (Int32.toInt64 x1), .long (0 : Int64), .long (Int32.toInt64 ((σ1.1 7) - (1 : Int32)))]) E hG (c_m_X12_in hcl) Wd_837 mi_X12_in ⟨Nat.le_of_ble_eq_true rfl, Nat.le_of_ble_eq_true rfl, Nat.zero_le _, Nat.zero_le _⟩ rfl hl.1 rfl (Nat.le_of_ble_eq_true rfl) dX12_symbol_15 rfl (fun H locs hG => ?_)
  refine lv_if_eq (tgt := 25) E.1 E.2.1 dX12_symbol_18 (by decide) (fun hc => ?_) (fun hc => ?_)
  · replace hf := (if_pos hc).symm.trans hf
    refine lv_iconst (v := (1 : Int32)) E.1 E.2.1 dX12_symbol_25 (by decide) ?_
    exact k_m_X12_symbol_26 E hr hlk _ _ _ hf _ _ _ hG (lv_sub hl [0, 1] rfl)
  · replace hf := (if_neg hc).symm.trans hf
    refine lv_iconst (v := (0 : Int32)) E.1 E.2.1 dX12_symbol_21 (by decide) ?_
    refine lv_goto (tgt := 26) E.1 E.2.1 dX12_symbol_22 (by decide) ?_
    exact k_m_X12_symbol_26 E hr hlk _ _ _ hf _ _ _ hG (lv_sub hl [0, 1] rfl)
