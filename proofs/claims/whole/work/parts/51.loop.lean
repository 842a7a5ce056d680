/-! the law's loop -/
theorem and31 (a : Int32) : ∃ n, n < 32 ∧ a &&& 31 = nI n := by
  refine ⟨a.toBitVec.toNat % 32, Nat.mod_lt _ (by decide), ?_⟩
  apply Int32.toBitVec_inj.mp
  apply BitVec.eq_of_toNat_eq
  have e1 : (a &&& 31).toBitVec = a.toBitVec &&& 31#32 := rfl
  have e2 : (nI (a.toBitVec.toNat % 32)).toBitVec = BitVec.ofNat 32 (a.toBitVec.toNat % 32) := rfl
  rw [e1, e2, BitVec.toNat_and, BitVec.toNat_ofNat, BitVec.toNat_ofNat]
  have h : a.toBitVec.toNat % 32 < 32 := Nat.mod_lt _ (by decide)
  rw [Nat.mod_eq_of_lt (show a.toBitVec.toNat % 32 < 2 ^ 32 by omega)]
  exact Nat.and_two_pow_sub_one_eq_mod a.toBitVec.toNat 5
theorem m4 {L i : Nat} (hL : L ≤ 2048) (hi : i ≤ 4096) : (Int32.ofNat L - 4 < nI i) ↔ L < i + 4 := by
  show nI L - 4 < nI i ↔ _
  by_cases h : 4 ≤ L
  · have e : nI L = nI (L - 4) + nI 4 := by rw [nI_add]; congr 1; omega
    have e2 : nI L - 4 = nI (L - 4) := by rw [e, i_4]; grind
    rw [e2, nI_ltI (by omega) (by omega)]
    omega
  · have hz : (nI L - 4 : Int32).toInt < 0 := by
      rcases (show L = 0 ∨ L = 1 ∨ L = 2 ∨ L = 3 by omega) with rfl | rfl | rfl | rfl <;> decide
    rw [Int32.lt_iff_toInt_lt, nI_toInt (by omega)]
    omega
set_option maxHeartbeats 4000000 in
set_option maxRecDepth 100000 in
theorem law_loop {p : Program} {l : Launch} {e : Env} {s : State} {m : MethodId} {below : List Frame} {meth : Method} {c : Code} {D : va_G} {ad bd : Nat → Nat} {cy cl : ClassId} {o b L : Nat} {xs : Nat → Int32} {sa : Nat → Nat} (hE : LE p l m c s #[Value.ref b] D cy cl b L xs sa) (hr : meth.sig.returnType = ret) (hlk : meth.locks = false) :
    ∀ (k j : Nat) (σ τ : SS) (f : Nat → Int64) (H : Heap) (locs : List Loc) (ls : Array Slot), 4 * j ≤ L → L < 4 * j + k → Rel σ τ j → KG D (AL s) s H locs (LWs ad bd cy cl o σ τ f) → lv_has ls 8 [(0, .ref b), (1, .ref (ad 0)), (2, .ref (bd 0)), (3, .ref o), (4, .int (nI (4 * j)))] →
      W p l e room_1 s m #[Value.ref b] below meth c H locs (56 + j) (18905 + 6 * j) (lw_Z below #[Value.ref b] s) (F0 m 23 ls []) := by
  intro k
  induction k with
  | zero => intro j σ τ f H locs ls h1 h2; omega
  | succ k ih =>
    intro j σ τ f H locs ls h1 h2 hR hG hl
    have E := hE.1
    have hX := hE.2.2.2.1
    have hbl := hE.2.2.2.2.1
    have hL := hE.2.2.2.2.2.2.2
    have hbA : ¬ AL s b := Nat.not_le.mpr hbl
    refine lv_iload E.1 E.2.1 dL_law_23 (lv_at hl 4 rfl) ?_
    refine lv_aload_n E.1 E.2.1 dL_law_25 rfl (lv_at hl 0 rfl) ?_
    refine va_slen E.1 E.2.1 hX hbl hbA hG.2.2 dL_law_26 ?_
    refine lv_iconst (v := (4 : Int32)) E.1 E.2.1 dL_law_27 (by decide) ?_
    refine lv_isub E.1 E.2.1 dL_law_28 ?_
    refine lv_icmp_gt (tgt := 763) E.1 E.2.1 dL_law_29 (by decide) (fun hc => ?_) (fun hc => ?_)
    · refine lv_iconst (v := (1 : Int32)) E.1 E.2.1 dL_law_763 (by decide) ?_
      refine va_forget (fun q hq => hG.2.2.2.2 q hq) ?_
      refine W.widen (k := 3131) (n := 137707) (by omega) (by omega) ?_
      exact lw_ret E.1 E.2.1 hr hlk dL_law_764
    · have hlt : 4 * j + 4 ≤ L := by
        rcases Nat.lt_or_ge L (4 * j + 4) with q | q
        · exact absurd ((m4 hL (by omega)).mpr q) hc
        · exact q
      refine lv_aload_n E.1 E.2.1 dL_law_32 rfl (lv_at hl 0 rfl) ?_
      refine lv_iload E.1 E.2.1 dL_law_33 (lv_at hl 4 rfl) ?_
      refine va_sld E.1 E.2.1 hX hbl hbA hG.2.2 (vp_in_nI (show 4 * j < L by omega) (by omega)) dL_law_35 ?_
      refine lv_bipush (v := (31 : Int32)) E.1 E.2.1 dL_law_36 (by decide) ?_
      refine lv_iand E.1 E.2.1 dL_law_38 ?_
      have kk : LK p l e s m #[Value.ref b] below meth c D ad bd cy cl o b (4 * j) j (56 + j) (18905 + 6 * j) (lw_Z below #[Value.ref b] s) := by
        intro σ' τ' f' H' locs' ls' hR' hG' hl'
        refine lv_iinc (v := nI (4 * (j + 1))) (lv' := [(4, .int (nI (4 * (j + 1)))), (0, .ref b), (1, .ref (ad 0)), (2, .ref (bd 0)), (3, .ref o)]) E.1 E.2.1 dL_law_757 hl' (k := 4) rfl (nI_k (k := 4) (by decide)) (by decide) rfl (fun ls2 hl2 => ?_)
        refine lv_goto (tgt := 23) E.1 E.2.1 dL_law_760 (by decide) ?_
        exact W.widen (k := 56 + (j + 1)) (n := 18905 + 6 * (j + 1)) (by omega) (by omega) (ih (j + 1) σ' τ' f' H' locs' ls2 (by omega) (by omega) hR' hG' (lv_sub hl2 [1, 2, 3, 4, 0] rfl))
      have hj : j < 2 ^ 30 := by omega
      have hC : 56 + j + 1 ≤ 3131 ∧ 18905 + 6 * j + 6 ≤ 137707 := ⟨by omega, by omega⟩
      have hi : 4 * j + 3 < L := by omega
      obtain ⟨n, hn, en⟩ := and31 (xs (nI (4 * j)).toNatClampNeg)
      rw [en]
      by_cases h17 : n ≤ 17
      · rcases (show n = 0 ∨ n = 1 ∨ n = 2 ∨ n = 3 ∨ n = 4 ∨ n = 5 ∨ n = 6 ∨ n = 7 ∨ n = 8 ∨ n = 9 ∨ n = 10 ∨ n = 11 ∨ n = 12 ∨ n = 13 ∨ n = 14 ∨ n = 15 ∨ n = 16 ∨ n = 17 by omega) with rfl | rfl | rfl | rfl | rfl | rfl | rfl | rfl | rfl | rfl | rfl | rfl | rfl | rfl | rfl | rfl | rfl | rfl
        · exact lv_tableIn (off := 85) (tgt := 124) E.1 E.2.1 dL_law_39 (by decide) (by decide) (by decide) (by decide) (lc_0 hE hi hj hC hR hG hl kk)
        · exact lv_tableIn (off := 110) (tgt := 149) E.1 E.2.1 dL_law_39 (by decide) (by decide) (by decide) (by decide) (lc_1 hE hi hj hC hR hG hl kk)
        · exact lv_tableIn (off := 123) (tgt := 162) E.1 E.2.1 dL_law_39 (by decide) (by decide) (by decide) (by decide) (lc_2 hE hi hj hC hR hG hl kk)
        · exact lv_tableIn (off := 148) (tgt := 187) E.1 E.2.1 dL_law_39 (by decide) (by decide) (by decide) (by decide) (lc_3 hE hi hj hC hR hG hl kk)
        · exact lv_tableIn (off := 185) (tgt := 224) E.1 E.2.1 dL_law_39 (by decide) (by decide) (by decide) (by decide) (lc_4 hE hi hj hC hR hG hl kk)
        · exact lv_tableIn (off := 222) (tgt := 261) E.1 E.2.1 dL_law_39 (by decide) (by decide) (by decide) (by decide) (lc_5 hE hi hj hC hR hG hl kk)
        · exact lv_tableIn (off := 272) (tgt := 311) E.1 E.2.1 dL_law_39 (by decide) (by decide) (by decide) (by decide) (lc_6 hE hi hj hC hR hG hl kk)
        · exact lv_tableIn (off := 309) (tgt := 348) E.1 E.2.1 dL_law_39 (by decide) (by decide) (by decide) (by decide) (lc_7 hE hi hj hC hR hG hl kk)
        · exact lv_tableIn (off := 364) (tgt := 403) E.1 E.2.1 dL_law_39 (by decide) (by decide) (by decide) (by decide) (lc_8 hE hi hj hC hR hG hl kk)
        · exact lv_tableIn (off := 414) (tgt := 453) E.1 E.2.1 dL_law_39 (by decide) (by decide) (by decide) (by decide) (lc_9 hE hi hj hC hR hG hl kk)
        · exact lv_tableIn (off := 451) (tgt := 490) E.1 E.2.1 dL_law_39 (by decide) (by decide) (by decide) (by decide) (lc_10 hE hi hj hC hR hG hl kk)
        · exact lv_tableIn (off := 488) (tgt := 527) E.1 E.2.1 dL_law_39 (by decide) (by decide) (by decide) (by decide) (lc_11 hE hi hj hC hR hG hl kk)
        · exact lv_tableIn (off := 513) (tgt := 552) E.1 E.2.1 dL_law_39 (by decide) (by decide) (by decide) (by decide) (lc_12 hE hi hj hC hR hG hl kk)
        · exact lv_tableIn (off := 538) (tgt := 577) E.1 E.2.1 dL_law_39 (by decide) (by decide) (by decide) (by decide) (lc_13 hE hi hj hC hR hG hl kk)
        · exact lv_tableIn (off := 587) (tgt := 626) E.1 E.2.1 dL_law_39 (by decide) (by decide) (by decide) (by decide) (lc_14 hE hi hj hC hR hG hl kk)
        · exact lv_tableIn (off := 612) (tgt := 651) E.1 E.2.1 dL_law_39 (by decide) (by decide) (by decide) (by decide) (lc_15 hE hi hj hC hR hG hl kk)
        · exact lv_tableIn (off := 649) (tgt := 688) E.1 E.2.1 dL_law_39 (by decide) (by decide) (by decide) (by decide) (lc_16 hE hi hj hC hR hG hl kk)
        · exact lv_tableIn (off := 705) (tgt := 744) E.1 E.2.1 dL_law_39 (by decide) (by decide) (by decide) (by decide) (lc_17 hE hi hj hC hR hG hl kk)
      · refine lv_tableOut (tgt := 757) E.1 E.2.1 dL_law_39 (Or.inr (by rw [nI_toInt (by omega)]; omega)) (by decide) ?_
        exact W.widen (by omega) (by omega) (kk σ τ f H locs ls (hR.up (by omega)) hG hl)
