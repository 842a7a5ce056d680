/-! the law: its cases -/
set_option maxHeartbeats 4000000 in
set_option maxRecDepth 100000 in
theorem lc_0 {p : Program} {l : Launch} {e : Env} {s : State} {m : MethodId} {args : Array Value} {below : List Frame} {meth : Method} {c : Code} {H : Heap} {locs : List Loc} {Q : State → Prop} {ls : Array Slot} {D : va_G} {ad bd : Nat → Nat} {cy cl : ClassId} {o b L i j C S : Nat} {xs : Nat → Int32} {sa : Nat → Nat} {σ τ : SS} {f : Nat → Int64} (hE : LE p l m c s args D cy cl b L xs sa) (hi : i + 3 < L) (hj : j < 2 ^ 30) (hC : C + 1 ≤ 3131 ∧ S + 6 ≤ 137707) (hR : Rel σ τ j) (hG : KG D (AL s) s H locs (LWs ad bd cy cl o σ τ f)) (hl : lv_has ls 8 [(0, .ref b), (1, .ref (ad 0)), (2, .ref (bd 0)), (3, .ref o), (4, .int (nI i))]) (kk : LK p l e s m args below meth c D ad bd cy cl o b i j C S Q) : W p l e room_1 s m args below meth c H locs C S Q (F0 m 124 ls []) := by
  have E := hE.1
  have hK := hE.2.1
  have hA : ∀ q, s.heap.size ≤ q → AL s q := fun _ h => h
  obtain ⟨r, σ', τ', e1, e2, hR'⟩ := rel_sign hj hR (xs (i + 1))
  refine lv_aload_n E.1 E.2.1 dL_law_124 rfl (lv_at hl 1 rfl) ?_
  refine l_arg 1 hE hG.2.2 hl 0 4 rfl rfl (by decide) (by omega) dL_law_125 dL_law_126 dL_law_128 dL_law_129 dL_law_130 ?_
  refine jw_V (w := cw ad cy) (As := [.int (xs (i + 1))]) (rest := []) (st1 := [.int r]) (cw_as ad cy) E hK hA hG (c_c_X11_sign e1) Wd_358 mi_X11_sign ⟨Nat.le_of_ble_eq_true rfl, Nat.le_of_ble_eq_true rfl, by show _ ≤ 3131; omega, by show _ ≤ 137707; omega⟩ 12 0 rfl rfl rfl hl.1 rfl (Nat.le_of_ble_eq_true rfl) dL_law_131 rfl (fun H locs hG => ?_)
  refine lv_aload_n E.1 E.2.1 dL_law_134 rfl (lv_at hl 2 rfl) ?_
  refine l_arg 1 hE hG.2.2 hl 0 4 rfl rfl (by decide) (by omega) dL_law_135 dL_law_136 dL_law_138 dL_law_139 dL_law_140 ?_
  have hG := KG.toM (o := o) (cl := cl) (f := f) hG
  refine jw_V (w := mw bd cy) (As := [.int (xs (i + 1))]) (rest := [.int r]) (st1 := [.int r, .int r]) (mw_as bd cy) E hK hA hG (c_m_X12_sign e2) Wd_829 mi_X12_sign ⟨Nat.le_of_ble_eq_true rfl, Nat.le_of_ble_eq_true rfl, by show _ ≤ 3131; omega, by show _ ≤ 137707; omega⟩ 13 0 rfl rfl rfl hl.1 rfl (Nat.le_of_ble_eq_true rfl) dL_law_141 rfl (fun H locs hG => ?_)
  refine lv_icmp_eq (tgt := 757) E.1 E.2.1 dL_law_144 (by decide) (fun _ => ?_) (fun hc => absurd rfl hc)
  exact W.widen (by omega) (by omega) (kk _ _ _ _ _ _ hR' hG.toC hl)
set_option maxHeartbeats 4000000 in
set_option maxRecDepth 100000 in
theorem lc_1 {p : Program} {l : Launch} {e : Env} {s : State} {m : MethodId} {args : Array Value} {below : List Frame} {meth : Method} {c : Code} {H : Heap} {locs : List Loc} {Q : State → Prop} {ls : Array Slot} {D : va_G} {ad bd : Nat → Nat} {cy cl : ClassId} {o b L i j C S : Nat} {xs : Nat → Int32} {sa : Nat → Nat} {σ τ : SS} {f : Nat → Int64} (hE : LE p l m c s args D cy cl b L xs sa) (hi : i + 3 < L) (hj : j < 2 ^ 30) (hC : C + 1 ≤ 3131 ∧ S + 6 ≤ 137707) (hR : Rel σ τ j) (hG : KG D (AL s) s H locs (LWs ad bd cy cl o σ τ f)) (hl : lv_has ls 8 [(0, .ref b), (1, .ref (ad 0)), (2, .ref (bd 0)), (3, .ref o), (4, .int (nI i))]) (kk : LK p l e s m args below meth c D ad bd cy cl o b i j C S Q) : W p l e room_1 s m args below meth c H locs C S Q (F0 m 149 ls []) := by
  have E := hE.1
  have hK := hE.2.1
  have hA : ∀ q, s.heap.size ≤ q → AL s q := fun _ h => h
  obtain ⟨r, σ', τ', e1, e2, hR'⟩ := rel_wipe hj hR
  refine lv_aload_n E.1 E.2.1 dL_law_149 rfl (lv_at hl 1 rfl) ?_
  refine jw_V (w := cw ad cy) (As := []) (rest := []) (st1 := [.int r]) (cw_as ad cy) E hK hA hG (c_c_X11_wipe e1) Wd_372 mi_X11_wipe ⟨Nat.le_of_ble_eq_true rfl, Nat.le_of_ble_eq_true rfl, by show _ ≤ 3131; omega, by show _ ≤ 137707; omega⟩ 12 0 rfl rfl rfl hl.1 rfl (Nat.le_of_ble_eq_true rfl) dL_law_150 rfl (fun H locs hG => ?_)
  refine lv_aload_n E.1 E.2.1 dL_law_153 rfl (lv_at hl 2 rfl) ?_
  have hG := KG.toM (o := o) (cl := cl) (f := f) hG
  refine jw_V (w := mw bd cy) (As := []) (rest := [.int r]) (st1 := [.int r, .int r]) (mw_as bd cy) E hK hA hG (c_m_X12_wipe e2) Wd_840 mi_X12_wipe ⟨Nat.le_of_ble_eq_true rfl, Nat.le_of_ble_eq_true rfl, by show _ ≤ 3131; omega, by show _ ≤ 137707; omega⟩ 13 0 rfl rfl rfl hl.1 rfl (Nat.le_of_ble_eq_true rfl) dL_law_154 rfl (fun H locs hG => ?_)
  refine lv_icmp_eq (tgt := 757) E.1 E.2.1 dL_law_157 (by decide) (fun _ => ?_) (fun hc => absurd rfl hc)
  exact W.widen (by omega) (by omega) (kk _ _ _ _ _ _ hR' hG.toC hl)
set_option maxHeartbeats 4000000 in
set_option maxRecDepth 100000 in
theorem lc_2 {p : Program} {l : Launch} {e : Env} {s : State} {m : MethodId} {args : Array Value} {below : List Frame} {meth : Method} {c : Code} {H : Heap} {locs : List Loc} {Q : State → Prop} {ls : Array Slot} {D : va_G} {ad bd : Nat → Nat} {cy cl : ClassId} {o b L i j C S : Nat} {xs : Nat → Int32} {sa : Nat → Nat} {σ τ : SS} {f : Nat → Int64} (hE : LE p l m c s args D cy cl b L xs sa) (hi : i + 3 < L) (hj : j < 2 ^ 30) (hC : C + 1 ≤ 3131 ∧ S + 6 ≤ 137707) (hR : Rel σ τ j) (hG : KG D (AL s) s H locs (LWs ad bd cy cl o σ τ f)) (hl : lv_has ls 8 [(0, .ref b), (1, .ref (ad 0)), (2, .ref (bd 0)), (3, .ref o), (4, .int (nI i))]) (kk : LK p l e s m args below meth c D ad bd cy cl o b i j C S Q) : W p l e room_1 s m args below meth c H locs C S Q (F0 m 162 ls []) := by
  have E := hE.1
  have hK := hE.2.1
  have hA : ∀ q, s.heap.size ≤ q → AL s q := fun _ h => h
  obtain ⟨r, σ', τ', e1, e2, hR'⟩ := rel_order hj hR (xs (i + 1))
  refine lv_aload_n E.1 E.2.1 dL_law_162 rfl (lv_at hl 1 rfl) ?_
  refine l_arg 1 hE hG.2.2 hl 0 4 rfl rfl (by decide) (by omega) dL_law_163 dL_law_164 dL_law_166 dL_law_167 dL_law_168 ?_
  refine jw_V (w := cw ad cy) (As := [.int (xs (i + 1))]) (rest := []) (st1 := [.int r]) (cw_as ad cy) E hK hA hG (c_c_X11_order e1) Wd_383 mi_X11_order ⟨Nat.le_of_ble_eq_true rfl, Nat.le_of_ble_eq_true rfl, by show _ ≤ 3131; omega, by show _ ≤ 137707; omega⟩ 12 0 rfl rfl rfl hl.1 rfl (Nat.le_of_ble_eq_true rfl) dL_law_169 rfl (fun H locs hG => ?_)
  refine lv_aload_n E.1 E.2.1 dL_law_172 rfl (lv_at hl 2 rfl) ?_
  refine l_arg 1 hE hG.2.2 hl 0 4 rfl rfl (by decide) (by omega) dL_law_173 dL_law_174 dL_law_176 dL_law_177 dL_law_178 ?_
  have hG := KG.toM (o := o) (cl := cl) (f := f) hG
  refine jw_V (w := mw bd cy) (As := [.int (xs (i + 1))]) (rest := [.int r]) (st1 := [.int r, .int r]) (mw_as bd cy) E hK hA hG (c_m_X12_order e2) Wd_848 mi_X12_order ⟨Nat.le_of_ble_eq_true rfl, Nat.le_of_ble_eq_true rfl, by show _ ≤ 3131; omega, by show _ ≤ 137707; omega⟩ 13 0 rfl rfl rfl hl.1 rfl (Nat.le_of_ble_eq_true rfl) dL_law_179 rfl (fun H locs hG => ?_)
  refine lv_icmp_eq (tgt := 757) E.1 E.2.1 dL_law_182 (by decide) (fun _ => ?_) (fun hc => absurd rfl hc)
  exact W.widen (by omega) (by omega) (kk _ _ _ _ _ _ hR' hG.toC hl)
set_option maxHeartbeats 4000000 in
set_option maxRecDepth 100000 in
theorem lc_3 {p : Program} {l : Launch} {e : Env} {s : State} {m : MethodId} {args : Array Value} {below : List Frame} {meth : Method} {c : Code} {H : Heap} {locs : List Loc} {Q : State → Prop} {ls : Array Slot} {D : va_G} {ad bd : Nat → Nat} {cy cl : ClassId} {o b L i j C S : Nat} {xs : Nat → Int32} {sa : Nat → Nat} {σ τ : SS} {f : Nat → Int64} (hE : LE p l m c s args D cy cl b L xs sa) (hi : i + 3 < L) (hj : j < 2 ^ 30) (hC : C + 1 ≤ 3131 ∧ S + 6 ≤ 137707) (hR : Rel σ τ j) (hG : KG D (AL s) s H locs (LWs ad bd cy cl o σ τ f)) (hl : lv_has ls 8 [(0, .ref b), (1, .ref (ad 0)), (2, .ref (bd 0)), (3, .ref o), (4, .int (nI i))]) (kk : LK p l e s m args below meth c D ad bd cy cl o b i j C S Q) : W p l e room_1 s m args below meth c H locs C S Q (F0 m 187 ls []) := by
  have E := hE.1
  have hK := hE.2.1
  have hA : ∀ q, s.heap.size ≤ q → AL s q := fun _ h => h
  obtain ⟨r, σ', τ', e1, e2, hR'⟩ := rel_context hR (xs (i + 1)) (xs (i + 2))
  refine lv_aload_n E.1 E.2.1 dL_law_187 rfl (lv_at hl 1 rfl) ?_
  refine l_arg 1 hE hG.2.2 hl 0 4 rfl rfl (by decide) (by omega) dL_law_188 dL_law_189 dL_law_191 dL_law_192 dL_law_193 ?_
  refine l_arg 2 hE hG.2.2 hl 0 4 rfl rfl (by decide) (by omega) dL_law_194 dL_law_195 dL_law_197 dL_law_198 dL_law_199 ?_
  refine jw_V (w := cw ad cy) (As := [.int (xs (i + 1)), .int (xs (i + 2))]) (rest := []) (st1 := [.int r]) (cw_as ad cy) E hK hA hG (c_c_X11_context e1) Wd_411 mi_X11_context ⟨Nat.le_of_ble_eq_true rfl, Nat.le_of_ble_eq_true rfl, by show _ ≤ 3131; omega, by show _ ≤ 137707; omega⟩ 12 0 rfl rfl rfl hl.1 rfl (Nat.le_of_ble_eq_true rfl) dL_law_200 rfl (fun H locs hG => ?_)
  refine lv_aload_n E.1 E.2.1 dL_law_203 rfl (lv_at hl 2 rfl) ?_
  refine l_arg 1 hE hG.2.2 hl 0 4 rfl rfl (by decide) (by omega) dL_law_204 dL_law_205 dL_law_207 dL_law_208 dL_law_209 ?_
  refine l_arg 2 hE hG.2.2 hl 0 4 rfl rfl (by decide) (by omega) dL_law_210 dL_law_211 dL_law_213 dL_law_214 dL_law_215 ?_
  have hG := KG.toM (o := o) (cl := cl) (f := f) hG
  refine jw_V (w := mw bd cy) (As := [.int (xs (i + 1)), .int (xs (i + 2))]) (rest := [.int r]) (st1 := [.int r, .int r]) (mw_as bd cy) E hK hA hG (c_m_X12_context e2) Wd_861 mi_X12_context ⟨Nat.le_of_ble_eq_true rfl, Nat.le_of_ble_eq_true rfl, by show _ ≤ 3131; omega, by show _ ≤ 137707; omega⟩ 13 0 rfl rfl rfl hl.1 rfl (Nat.le_of_ble_eq_true rfl) dL_law_216 rfl (fun H locs hG => ?_)
  refine lv_icmp_eq (tgt := 757) E.1 E.2.1 dL_law_219 (by decide) (fun _ => ?_) (fun hc => absurd rfl hc)
  exact W.widen (by omega) (by omega) (kk _ _ _ _ _ _ hR' hG.toC hl)
set_option maxHeartbeats 4000000 in
set_option maxRecDepth 100000 in
theorem lc_4 {p : Program} {l : Launch} {e : Env} {s : State} {m : MethodId} {args : Array Value} {below : List Frame} {meth : Method} {c : Code} {H : Heap} {locs : List Loc} {Q : State → Prop} {ls : Array Slot} {D : va_G} {ad bd : Nat → Nat} {cy cl : ClassId} {o b L i j C S : Nat} {xs : Nat → Int32} {sa : Nat → Nat} {σ τ : SS} {f : Nat → Int64} (hE : LE p l m c s args D cy cl b L xs sa) (hi : i + 3 < L) (hj : j < 2 ^ 30) (hC : C + 1 ≤ 3131 ∧ S + 6 ≤ 137707) (hR : Rel σ τ j) (hG : KG D (AL s) s H locs (LWs ad bd cy cl o σ τ f)) (hl : lv_has ls 8 [(0, .ref b), (1, .ref (ad 0)), (2, .ref (bd 0)), (3, .ref o), (4, .int (nI i))]) (kk : LK p l e s m args below meth c D ad bd cy cl o b i j C S Q) : W p l e room_1 s m args below meth c H locs C S Q (F0 m 224 ls []) := by
  have E := hE.1
  have hK := hE.2.1
  have hA : ∀ q, s.heap.size ≤ q → AL s q := fun _ h => h
  obtain ⟨r, σ', τ', e1, e2, hR'⟩ := rel_count hR (xs (i + 1)) (xs (i + 2))
  refine lv_aload_n E.1 E.2.1 dL_law_224 rfl (lv_at hl 1 rfl) ?_
  refine l_arg 1 hE hG.2.2 hl 0 4 rfl rfl (by decide) (by omega) dL_law_225 dL_law_226 dL_law_228 dL_law_229 dL_law_230 ?_
  refine l_arg 2 hE hG.2.2 hl 0 4 rfl rfl (by decide) (by omega) dL_law_231 dL_law_232 dL_law_234 dL_law_235 dL_law_236 ?_
  refine jw_V (w := cw ad cy) (As := [.int (xs (i + 1)), .int (xs (i + 2))]) (rest := []) (st1 := [.int r]) (cw_as ad cy) E hK hA hG (c_c_X11_count e1) Wd_419 mi_X11_count ⟨Nat.le_of_ble_eq_true rfl, Nat.le_of_ble_eq_true rfl, by show _ ≤ 3131; omega, by show _ ≤ 137707; omega⟩ 12 0 rfl rfl rfl hl.1 rfl (Nat.le_of_ble_eq_true rfl) dL_law_237 rfl (fun H locs hG => ?_)
  refine lv_aload_n E.1 E.2.1 dL_law_240 rfl (lv_at hl 2 rfl) ?_
  refine l_arg 1 hE hG.2.2 hl 0 4 rfl rfl (by decide) (by omega) dL_law_241 dL_law_242 dL_law_244 dL_law_245 dL_law_246 ?_
  refine l_arg 2 hE hG.2.2 hl 0 4 rfl rfl (by decide) (by omega) dL_law_247 dL_law_248 dL_law_250 dL_law_251 dL_law_252 ?_
  have hG := KG.toM (o := o) (cl := cl) (f := f) hG
  refine jw_V (w := mw bd cy) (As := [.int (xs (i + 1)), .int (xs (i + 2))]) (rest := [.int r]) (st1 := [.int r, .int r]) (mw_as bd cy) E hK hA hG (c_m_X12_count e2) Wd_865 mi_X12_count ⟨Nat.le_of_ble_eq_true rfl, Nat.le_of_ble_eq_true rfl, by show _ ≤ 3131; omega, by show _ ≤ 137707; omega⟩ 13 0 rfl rfl rfl hl.1 rfl (Nat.le_of_ble_eq_true rfl) dL_law_253 rfl (fun H locs hG => ?_)
  refine lv_icmp_eq (tgt := 757) E.1 E.2.1 dL_law_256 (by decide) (fun _ => ?_) (fun hc => absurd rfl hc)
  exact W.widen (by omega) (by omega) (kk _ _ _ _ _ _ hR' hG.toC hl)
set_option maxHeartbeats 4000000 in
set_option maxRecDepth 100000 in
theorem lc_5 {p : Program} {l : Launch} {e : Env} {s : State} {m : MethodId} {args : Array Value} {below : List Frame} {meth : Method} {c : Code} {H : Heap} {locs : List Loc} {Q : State → Prop} {ls : Array Slot} {D : va_G} {ad bd : Nat → Nat} {cy cl : ClassId} {o b L i j C S : Nat} {xs : Nat → Int32} {sa : Nat → Nat} {σ τ : SS} {f : Nat → Int64} (hE : LE p l m c s args D cy cl b L xs sa) (hi : i + 3 < L) (hj : j < 2 ^ 30) (hC : C + 1 ≤ 3131 ∧ S + 6 ≤ 137707) (hR : Rel σ τ j) (hG : KG D (AL s) s H locs (LWs ad bd cy cl o σ τ f)) (hl : lv_has ls 8 [(0, .ref b), (1, .ref (ad 0)), (2, .ref (bd 0)), (3, .ref o), (4, .int (nI i))]) (kk : LK p l e s m args below meth c D ad bd cy cl o b i j C S Q) : W p l e room_1 s m args below meth c H locs C S Q (F0 m 261 ls []) := by
  have E := hE.1
  have hK := hE.2.1
  have hA : ∀ q, s.heap.size ≤ q → AL s q := fun _ h => h
  obtain ⟨r, σ', τ', e1, e2, hR'⟩ := rel_log hR (xs (i + 1)) (xs (i + 2)) (xs (i + 3))
  refine lv_aload_n E.1 E.2.1 dL_law_261 rfl (lv_at hl 1 rfl) ?_
  refine l_arg 1 hE hG.2.2 hl 0 4 rfl rfl (by decide) (by omega) dL_law_262 dL_law_263 dL_law_265 dL_law_266 dL_law_267 ?_
  refine l_arg 2 hE hG.2.2 hl 0 4 rfl rfl (by decide) (by omega) dL_law_268 dL_law_269 dL_law_271 dL_law_272 dL_law_273 ?_
  refine l_arg 3 hE hG.2.2 hl 0 4 rfl rfl (by decide) (by omega) dL_law_274 dL_law_275 dL_law_277 dL_law_278 dL_law_279 ?_
  refine jw_V (w := cw ad cy) (As := [.int (xs (i + 1)), .int (xs (i + 2)), .int (xs (i + 3))]) (rest := []) (st1 := [.long r]) (cw_as ad cy) E hK hA hG (c_c_X11_log e1) Wd_427 mi_X11_log ⟨Nat.le_of_ble_eq_true rfl, Nat.le_of_ble_eq_true rfl, by show _ ≤ 3131; omega, by show _ ≤ 137707; omega⟩ 12 0 rfl rfl rfl hl.1 rfl (Nat.le_of_ble_eq_true rfl) dL_law_280 rfl (fun H locs hG => ?_)
  refine lv_aload_n E.1 E.2.1 dL_law_283 rfl (lv_at hl 2 rfl) ?_
  refine l_arg 1 hE hG.2.2 hl 0 4 rfl rfl (by decide) (by omega) dL_law_284 dL_law_285 dL_law_287 dL_law_288 dL_law_289 ?_
  refine l_arg 2 hE hG.2.2 hl 0 4 rfl rfl (by decide) (by omega) dL_law_290 dL_law_291 dL_law_293 dL_law_294 dL_law_295 ?_
  refine l_arg 3 hE hG.2.2 hl 0 4 rfl rfl (by decide) (by omega) dL_law_296 dL_law_297 dL_law_299 dL_law_300 dL_law_301 ?_
  have hG := KG.toM (o := o) (cl := cl) (f := f) hG
  refine jw_V (w := mw bd cy) (As := [.int (xs (i + 1)), .int (xs (i + 2)), .int (xs (i + 3))]) (rest := [.long r]) (st1 := [.long r, .long r]) (mw_as bd cy) E hK hA hG (c_m_X12_log e2) Wd_870 mi_X12_log ⟨Nat.le_of_ble_eq_true rfl, Nat.le_of_ble_eq_true rfl, by show _ ≤ 3131; omega, by show _ ≤ 137707; omega⟩ 13 0 rfl rfl rfl hl.1 rfl (Nat.le_of_ble_eq_true rfl) dL_law_302 rfl (fun H locs hG => ?_)
  refine W.lcmp E.1 E.2.1 dL_law_305 ?_
  refine lv_if_eq (tgt := 757) E.1 E.2.1 dL_law_306 (by decide) (fun _ => ?_) (fun hc => absurd (lg_same _) hc)
  exact W.widen (by omega) (by omega) (kk _ _ _ _ _ _ hR' hG.toC hl)
set_option maxHeartbeats 4000000 in
set_option maxRecDepth 100000 in
theorem lc_6 {p : Program} {l : Launch} {e : Env} {s : State} {m : MethodId} {args : Array Value} {below : List Frame} {meth : Method} {c : Code} {H : Heap} {locs : List Loc} {Q : State → Prop} {ls : Array Slot} {D : va_G} {ad bd : Nat → Nat} {cy cl : ClassId} {o b L i j C S : Nat} {xs : Nat → Int32} {sa : Nat → Nat} {σ τ : SS} {f : Nat → Int64} (hE : LE p l m c s args D cy cl b L xs sa) (hi : i + 3 < L) (hj : j < 2 ^ 30) (hC : C + 1 ≤ 3131 ∧ S + 6 ≤ 137707) (hR : Rel σ τ j) (hG : KG D (AL s) s H locs (LWs ad bd cy cl o σ τ f)) (hl : lv_has ls 8 [(0, .ref b), (1, .ref (ad 0)), (2, .ref (bd 0)), (3, .ref o), (4, .int (nI i))]) (kk : LK p l e s m args below meth c D ad bd cy cl o b i j C S Q) : W p l e room_1 s m args below meth c H locs C S Q (F0 m 311 ls []) := by
  have E := hE.1
  have hK := hE.2.1
  have hA : ∀ q, s.heap.size ≤ q → AL s q := fun _ h => h
  obtain ⟨r, σ', τ', e1, e2, hR'⟩ := rel_weight hR (xs (i + 1)) (xs (i + 2))
  refine lv_aload_n E.1 E.2.1 dL_law_311 rfl (lv_at hl 1 rfl) ?_
  refine l_arg 1 hE hG.2.2 hl 0 4 rfl rfl (by decide) (by omega) dL_law_312 dL_law_313 dL_law_315 dL_law_316 dL_law_317 ?_
  refine l_arg 2 hE hG.2.2 hl 0 4 rfl rfl (by decide) (by omega) dL_law_318 dL_law_319 dL_law_321 dL_law_322 dL_law_323 ?_
  refine jw_V (w := cw ad cy) (As := [.int (xs (i + 1)), .int (xs (i + 2))]) (rest := []) (st1 := [.int r]) (cw_as ad cy) E hK hA hG (c_c_X11_weight e1) Wd_452 mi_X11_weight ⟨Nat.le_of_ble_eq_true rfl, Nat.le_of_ble_eq_true rfl, by show _ ≤ 3131; omega, by show _ ≤ 137707; omega⟩ 12 0 rfl rfl rfl hl.1 rfl (Nat.le_of_ble_eq_true rfl) dL_law_324 rfl (fun H locs hG => ?_)
  refine lv_aload_n E.1 E.2.1 dL_law_327 rfl (lv_at hl 2 rfl) ?_
  refine l_arg 1 hE hG.2.2 hl 0 4 rfl rfl (by decide) (by omega) dL_law_328 dL_law_329 dL_law_331 dL_law_332 dL_law_333 ?_
  refine l_arg 2 hE hG.2.2 hl 0 4 rfl rfl (by decide) (by omega) dL_law_334 dL_law_335 dL_law_337 dL_law_338 dL_law_339 ?_
  have hG := KG.toM (o := o) (cl := cl) (f := f) hG
  refine jw_V (w := mw bd cy) (As := [.int (xs (i + 1)), .int (xs (i + 2))]) (rest := [.int r]) (st1 := [.int r, .int r]) (mw_as bd cy) E hK hA hG (c_m_X12_weight e2) Wd_888 mi_X12_weight ⟨Nat.le_of_ble_eq_true rfl, Nat.le_of_ble_eq_true rfl, by show _ ≤ 3131; omega, by show _ ≤ 137707; omega⟩ 13 0 rfl rfl rfl hl.1 rfl (Nat.le_of_ble_eq_true rfl) dL_law_340 rfl (fun H locs hG => ?_)
  refine lv_icmp_eq (tgt := 757) E.1 E.2.1 dL_law_343 (by decide) (fun _ => ?_) (fun hc => absurd rfl hc)
  exact W.widen (by omega) (by omega) (kk _ _ _ _ _ _ hR' hG.toC hl)
set_option maxHeartbeats 4000000 in
set_option maxRecDepth 100000 in
theorem lc_7 {p : Program} {l : Launch} {e : Env} {s : State} {m : MethodId} {args : Array Value} {below : List Frame} {meth : Method} {c : Code} {H : Heap} {locs : List Loc} {Q : State → Prop} {ls : Array Slot} {D : va_G} {ad bd : Nat → Nat} {cy cl : ClassId} {o b L i j C S : Nat} {xs : Nat → Int32} {sa : Nat → Nat} {σ τ : SS} {f : Nat → Int64} (hE : LE p l m c s args D cy cl b L xs sa) (hi : i + 3 < L) (hj : j < 2 ^ 30) (hC : C + 1 ≤ 3131 ∧ S + 6 ≤ 137707) (hR : Rel σ τ j) (hG : KG D (AL s) s H locs (LWs ad bd cy cl o σ τ f)) (hl : lv_has ls 8 [(0, .ref b), (1, .ref (ad 0)), (2, .ref (bd 0)), (3, .ref o), (4, .int (nI i))]) (kk : LK p l e s m args below meth c D ad bd cy cl o b i j C S Q) : W p l e room_1 s m args below meth c H locs C S Q (F0 m 348 ls []) := by
  have E := hE.1
  have hK := hE.2.1
  have hA : ∀ q, s.heap.size ≤ q → AL s q := fun _ h => h
  refine lv_aload_n E.1 E.2.1 dL_law_348 rfl (lv_at hl 1 rfl) ?_
  refine l_arg 1 hE hG.2.2 hl 0 4 rfl rfl (by decide) (by omega) dL_law_349 dL_law_350 dL_law_352 dL_law_353 dL_law_354 ?_
  refine lv_aload_n E.1 E.2.1 dL_law_355 rfl (lv_at hl 3 rfl) ?_
  obtain ⟨b0, τ', e2, hR', hb⟩ := rel_share hR (xs (i + 1))
  rcases hb with ⟨h1, hth⟩ | ⟨h1, h2, hth⟩ | ⟨h1, h2, hth, e1⟩
  · refine j_H (k := 2) hE hG (h_share_2 hE.2.2.2.2.2.2.1 h1) Wd_632 Wd_633 Wd_41 Wd_634 (by decide +kernel) ⟨Nat.le_of_ble_eq_true rfl, Nat.le_of_ble_eq_true rfl, hC.1, hC.2⟩ hl.1 rfl (Nat.le_of_ble_eq_true rfl) dL_law_356 (fun H locs hG => ?_)
    refine lv_istore (lv' := [(5, .int 2), (0, .ref b), (1, .ref (ad 0)), (2, .ref (bd 0)), (3, .ref o), (4, .int (nI i))]) E.1 E.2.1 dL_law_359 hl (by decide) rfl (fun ls hl => ?_)
    refine lv_aload_n E.1 E.2.1 dL_law_361 rfl (lv_at hl 3 rfl) ?_
    refine l_arg 1 hE hG.2.2 hl 1 5 rfl rfl (by decide) (by omega) dL_law_362 dL_law_363 dL_law_365 dL_law_366 dL_law_367 ?_
    have hG := hG.toM
    refine jw_V (w := mw bd cy) (As := [.int (xs (i + 1))]) (rest := []) (st1 := [.long b0]) (mw_as bd cy) E hK hA hG (c_m_X12_share e2) Wd_893 mi_X12_share ⟨Nat.le_of_ble_eq_true rfl, Nat.le_of_ble_eq_true rfl, by show _ ≤ 3131; omega, by show _ ≤ 137707; omega⟩ 13 0 rfl rfl rfl hl.1 rfl (Nat.le_of_ble_eq_true rfl) dL_law_368 rfl (fun H locs hG => ?_)
    refine lv_lstore (lv' := [(6, .long b0), (5, .int 2), (0, .ref b), (1, .ref (ad 0)), (2, .ref (bd 0)), (3, .ref o), (4, .int (nI i))]) E.1 E.2.1 dL_law_371 hl (by decide) rfl (fun ls hl => ?_)
    refine lv_aload_n E.1 E.2.1 dL_law_373 rfl (lv_at hl 4 rfl) ?_
    refine jw_V (w := mw bd cy) (As := []) (rest := []) (st1 := [.int (τ'.1 0)]) (mw_as bd cy) E hK hA hG (c_m_X12_thrown (show f_m_X12_thrown τ' = some (τ'.1 0, τ') from rfl)) Wd_825 mi_X12_thrown ⟨Nat.le_of_ble_eq_true rfl, Nat.le_of_ble_eq_true rfl, by show _ ≤ 3131; omega, by show _ ≤ 137707; omega⟩ 13 0 rfl rfl rfl hl.1 rfl (Nat.le_of_ble_eq_true rfl) dL_law_374 rfl (fun H locs hG => ?_)
    refine lv_iload E.1 E.2.1 dL_law_377 (lv_at hl 1 rfl) ?_
    refine lv_icmp_eq (tgt := 384) E.1 E.2.1 dL_law_379 (by decide) (fun _ => ?_) (fun hc => absurd hth hc)
    have hG := hG.toC
    refine lv_iload E.1 E.2.1 dL_law_384 (lv_at hl 1 rfl) ?_
    refine lv_if_ne (tgt := 400) E.1 E.2.1 dL_law_386 (by decide) (fun _ => ?_) (fun hc => absurd hc (by decide))
    refine lv_goto (tgt := 757) E.1 E.2.1 dL_law_400 (by decide) ?_
    exact kk _ _ _ _ _ _ hR' hG (lv_sub hl [2, 3, 4, 5, 6] rfl)
  · refine j_H (k := 1) hE hG (h_share_1 hE.2.2.2.2.2.2.1 h1 h2) Wd_632 Wd_633 Wd_41 Wd_634 (by decide +kernel) ⟨Nat.le_of_ble_eq_true rfl, Nat.le_of_ble_eq_true rfl, hC.1, hC.2⟩ hl.1 rfl (Nat.le_of_ble_eq_true rfl) dL_law_356 (fun H locs hG => ?_)
    refine lv_istore (lv' := [(5, .int 1), (0, .ref b), (1, .ref (ad 0)), (2, .ref (bd 0)), (3, .ref o), (4, .int (nI i))]) E.1 E.2.1 dL_law_359 hl (by decide) rfl (fun ls hl => ?_)
    refine lv_aload_n E.1 E.2.1 dL_law_361 rfl (lv_at hl 3 rfl) ?_
    refine l_arg 1 hE hG.2.2 hl 1 5 rfl rfl (by decide) (by omega) dL_law_362 dL_law_363 dL_law_365 dL_law_366 dL_law_367 ?_
    have hG := hG.toM
    refine jw_V (w := mw bd cy) (As := [.int (xs (i + 1))]) (rest := []) (st1 := [.long b0]) (mw_as bd cy) E hK hA hG (c_m_X12_share e2) Wd_893 mi_X12_share ⟨Nat.le_of_ble_eq_true rfl, Nat.le_of_ble_eq_true rfl, by show _ ≤ 3131; omega, by show _ ≤ 137707; omega⟩ 13 0 rfl rfl rfl hl.1 rfl (Nat.le_of_ble_eq_true rfl) dL_law_368 rfl (fun H locs hG => ?_)
    refine lv_lstore (lv' := [(6, .long b0), (5, .int 1), (0, .ref b), (1, .ref (ad 0)), (2, .ref (bd 0)), (3, .ref o), (4, .int (nI i))]) E.1 E.2.1 dL_law_371 hl (by decide) rfl (fun ls hl => ?_)
    refine lv_aload_n E.1 E.2.1 dL_law_373 rfl (lv_at hl 4 rfl) ?_
    refine jw_V (w := mw bd cy) (As := []) (rest := []) (st1 := [.int (τ'.1 0)]) (mw_as bd cy) E hK hA hG (c_m_X12_thrown (show f_m_X12_thrown τ' = some (τ'.1 0, τ') from rfl)) Wd_825 mi_X12_thrown ⟨Nat.le_of_ble_eq_true rfl, Nat.le_of_ble_eq_true rfl, by show _ ≤ 3131; omega, by show _ ≤ 137707; omega⟩ 13 0 rfl rfl rfl hl.1 rfl (Nat.le_of_ble_eq_true rfl) dL_law_374 rfl (fun H locs hG => ?_)
    refine lv_iload E.1 E.2.1 dL_law_377 (lv_at hl 1 rfl) ?_
    refine lv_icmp_eq (tgt := 384) E.1 E.2.1 dL_law_379 (by decide) (fun _ => ?_) (fun hc => absurd hth hc)
    have hG := hG.toC
    refine lv_iload E.1 E.2.1 dL_law_384 (lv_at hl 1 rfl) ?_
    refine lv_if_ne (tgt := 400) E.1 E.2.1 dL_law_386 (by decide) (fun _ => ?_) (fun hc => absurd hc (by decide))
    refine lv_goto (tgt := 757) E.1 E.2.1 dL_law_400 (by decide) ?_
    exact kk _ _ _ _ _ _ hR' hG (lv_sub hl [2, 3, 4, 5, 6] rfl)
  · refine j_H (k := 0) hE hG (h_share_0 e1) Wd_632 Wd_633 Wd_41 Wd_634 (by decide +kernel) ⟨Nat.le_of_ble_eq_true rfl, Nat.le_of_ble_eq_true rfl, hC.1, hC.2⟩ hl.1 rfl (Nat.le_of_ble_eq_true rfl) dL_law_356 (fun H locs hG => ?_)
    refine lv_istore (lv' := [(5, .int 0), (0, .ref b), (1, .ref (ad 0)), (2, .ref (bd 0)), (3, .ref o), (4, .int (nI i))]) E.1 E.2.1 dL_law_359 hl (by decide) rfl (fun ls hl => ?_)
    refine lv_aload_n E.1 E.2.1 dL_law_361 rfl (lv_at hl 3 rfl) ?_
    refine l_arg 1 hE hG.2.2 hl 1 5 rfl rfl (by decide) (by omega) dL_law_362 dL_law_363 dL_law_365 dL_law_366 dL_law_367 ?_
    have hG := hG.toM
    refine jw_V (w := mw bd cy) (As := [.int (xs (i + 1))]) (rest := []) (st1 := [.long b0]) (mw_as bd cy) E hK hA hG (c_m_X12_share e2) Wd_893 mi_X12_share ⟨Nat.le_of_ble_eq_true rfl, Nat.le_of_ble_eq_true rfl, by show _ ≤ 3131; omega, by show _ ≤ 137707; omega⟩ 13 0 rfl rfl rfl hl.1 rfl (Nat.le_of_ble_eq_true rfl) dL_law_368 rfl (fun H locs hG => ?_)
    refine lv_lstore (lv' := [(6, .long b0), (5, .int 0), (0, .ref b), (1, .ref (ad 0)), (2, .ref (bd 0)), (3, .ref o), (4, .int (nI i))]) E.1 E.2.1 dL_law_371 hl (by decide) rfl (fun ls hl => ?_)
    refine lv_aload_n E.1 E.2.1 dL_law_373 rfl (lv_at hl 4 rfl) ?_
    refine jw_V (w := mw bd cy) (As := []) (rest := []) (st1 := [.int (τ'.1 0)]) (mw_as bd cy) E hK hA hG (c_m_X12_thrown (show f_m_X12_thrown τ' = some (τ'.1 0, τ') from rfl)) Wd_825 mi_X12_thrown ⟨Nat.le_of_ble_eq_true rfl, Nat.le_of_ble_eq_true rfl, by show _ ≤ 3131; omega, by show _ ≤ 137707; omega⟩ 13 0 rfl rfl rfl hl.1 rfl (Nat.le_of_ble_eq_true rfl) dL_law_374 rfl (fun H locs hG => ?_)
    refine lv_iload E.1 E.2.1 dL_law_377 (lv_at hl 1 rfl) ?_
    refine lv_icmp_eq (tgt := 384) E.1 E.2.1 dL_law_379 (by decide) (fun _ => ?_) (fun hc => absurd hth hc)
    have hG := hG.toC
    refine lv_iload E.1 E.2.1 dL_law_384 (lv_at hl 1 rfl) ?_
    refine lv_if_ne (tgt := 400) E.1 E.2.1 dL_law_386 (by decide) (fun hc => absurd rfl hc) (fun _ => ?_)
    refine lv_aload_n E.1 E.2.1 dL_law_389 rfl (lv_at hl 5 rfl) ?_
    refine lv_iconst (v := (0 : Int32)) E.1 E.2.1 dL_law_390 (by decide) ?_
    refine va_lald E.1 E.2.1 hE.2.2.1 hG.1 55 0 (cA := cl) (n := 1) (a := o) rfl rfl (show ¬ ((0 : Int32) < 0 ∨ 1 ≤ (0 : Int32).toNatClampNeg) by decide) dL_law_391 ?_
    refine lv_lload E.1 E.2.1 dL_law_392 (lv_at hl 0 rfl) ?_
    refine W.lcmp E.1 E.2.1 dL_law_394 ?_
    refine lv_if_eq (tgt := 400) E.1 E.2.1 dL_law_395 (by decide) (fun _ => ?_) (fun hc => absurd (lg_same _) hc)
    refine lv_goto (tgt := 757) E.1 E.2.1 dL_law_400 (by decide) ?_
    exact kk _ _ _ _ _ _ hR' hG (lv_sub hl [2, 3, 4, 5, 6] rfl)
set_option maxHeartbeats 4000000 in
set_option maxRecDepth 100000 in
theorem lc_8 {p : Program} {l : Launch} {e : Env} {s : State} {m : MethodId} {args : Array Value} {below : List Frame} {meth : Method} {c : Code} {H : Heap} {locs : List Loc} {Q : State → Prop} {ls : Array Slot} {D : va_G} {ad bd : Nat → Nat} {cy cl : ClassId} {o b L i j C S : Nat} {xs : Nat → Int32} {sa : Nat → Nat} {σ τ : SS} {f : Nat → Int64} (hE : LE p l m c s args D cy cl b L xs sa) (hi : i + 3 < L) (hj : j < 2 ^ 30) (hC : C + 1 ≤ 3131 ∧ S + 6 ≤ 137707) (hR : Rel σ τ j) (hG : KG D (AL s) s H locs (LWs ad bd cy cl o σ τ f)) (hl : lv_has ls 8 [(0, .ref b), (1, .ref (ad 0)), (2, .ref (bd 0)), (3, .ref o), (4, .int (nI i))]) (kk : LK p l e s m args below meth c D ad bd cy cl o b i j C S Q) : W p l e room_1 s m args below meth c H locs C S Q (F0 m 403 ls []) := by
  have E := hE.1
  have hK := hE.2.1
  have hA : ∀ q, s.heap.size ≤ q → AL s q := fun _ h => h
  obtain ⟨r, σ', τ', e1, e2, hR'⟩ := rel_cost hR (xs (i + 1)) (xs (i + 2)) (xs (i + 3))
  refine lv_aload_n E.1 E.2.1 dL_law_403 rfl (lv_at hl 1 rfl) ?_
  refine l_arg 1 hE hG.2.2 hl 0 4 rfl rfl (by decide) (by omega) dL_law_404 dL_law_405 dL_law_407 dL_law_408 dL_law_409 ?_
  refine l_arg 2 hE hG.2.2 hl 0 4 rfl rfl (by decide) (by omega) dL_law_410 dL_law_411 dL_law_413 dL_law_414 dL_law_415 ?_
  refine l_arg 3 hE hG.2.2 hl 0 4 rfl rfl (by decide) (by omega) dL_law_416 dL_law_417 dL_law_419 dL_law_420 dL_law_421 ?_
  refine jw_V (w := cw ad cy) (As := [.int (xs (i + 1)), .int (xs (i + 2)), .int (xs (i + 3))]) (rest := []) (st1 := [.long r]) (cw_as ad cy) E hK hA hG (c_c_X11_cost e1) Wd_460 mi_X11_cost ⟨Nat.le_of_ble_eq_true rfl, Nat.le_of_ble_eq_true rfl, by show _ ≤ 3131; omega, by show _ ≤ 137707; omega⟩ 12 0 rfl rfl rfl hl.1 rfl (Nat.le_of_ble_eq_true rfl) dL_law_422 rfl (fun H locs hG => ?_)
  refine lv_aload_n E.1 E.2.1 dL_law_425 rfl (lv_at hl 2 rfl) ?_
  refine l_arg 1 hE hG.2.2 hl 0 4 rfl rfl (by decide) (by omega) dL_law_426 dL_law_427 dL_law_429 dL_law_430 dL_law_431 ?_
  refine l_arg 2 hE hG.2.2 hl 0 4 rfl rfl (by decide) (by omega) dL_law_432 dL_law_433 dL_law_435 dL_law_436 dL_law_437 ?_
  refine l_arg 3 hE hG.2.2 hl 0 4 rfl rfl (by decide) (by omega) dL_law_438 dL_law_439 dL_law_441 dL_law_442 dL_law_443 ?_
  have hG := KG.toM (o := o) (cl := cl) (f := f) hG
  refine jw_V (w := mw bd cy) (As := [.int (xs (i + 1)), .int (xs (i + 2)), .int (xs (i + 3))]) (rest := [.long r]) (st1 := [.long r, .long r]) (mw_as bd cy) E hK hA hG (c_m_X12_cost e2) Wd_902 mi_X12_cost ⟨Nat.le_of_ble_eq_true rfl, Nat.le_of_ble_eq_true rfl, by show _ ≤ 3131; omega, by show _ ≤ 137707; omega⟩ 13 0 rfl rfl rfl hl.1 rfl (Nat.le_of_ble_eq_true rfl) dL_law_444 rfl (fun H locs hG => ?_)
  refine W.lcmp E.1 E.2.1 dL_law_447 ?_
  refine lv_if_eq (tgt := 757) E.1 E.2.1 dL_law_448 (by decide) (fun _ => ?_) (fun hc => absurd (lg_same _) hc)
  exact W.widen (by omega) (by omega) (kk _ _ _ _ _ _ hR' hG.toC hl)
set_option maxHeartbeats 4000000 in
set_option maxRecDepth 100000 in
theorem lc_9 {p : Program} {l : Launch} {e : Env} {s : State} {m : MethodId} {args : Array Value} {below : List Frame} {meth : Method} {c : Code} {H : Heap} {locs : List Loc} {Q : State → Prop} {ls : Array Slot} {D : va_G} {ad bd : Nat → Nat} {cy cl : ClassId} {o b L i j C S : Nat} {xs : Nat → Int32} {sa : Nat → Nat} {σ τ : SS} {f : Nat → Int64} (hE : LE p l m c s args D cy cl b L xs sa) (hi : i + 3 < L) (hj : j < 2 ^ 30) (hC : C + 1 ≤ 3131 ∧ S + 6 ≤ 137707) (hR : Rel σ τ j) (hG : KG D (AL s) s H locs (LWs ad bd cy cl o σ τ f)) (hl : lv_has ls 8 [(0, .ref b), (1, .ref (ad 0)), (2, .ref (bd 0)), (3, .ref o), (4, .int (nI i))]) (kk : LK p l e s m args below meth c D ad bd cy cl o b i j C S Q) : W p l e room_1 s m args below meth c H locs C S Q (F0 m 453 ls []) := by
  have E := hE.1
  have hK := hE.2.1
  have hA : ∀ q, s.heap.size ≤ q → AL s q := fun _ h => h
  obtain ⟨r, σ', τ', e1, e2, hR'⟩ := rel_digits hR (xs (i + 1)) (xs (i + 2))
  refine lv_aload_n E.1 E.2.1 dL_law_453 rfl (lv_at hl 1 rfl) ?_
  refine l_arg 1 hE hG.2.2 hl 0 4 rfl rfl (by decide) (by omega) dL_law_454 dL_law_455 dL_law_457 dL_law_458 dL_law_459 ?_
  refine l_arg 2 hE hG.2.2 hl 0 4 rfl rfl (by decide) (by omega) dL_law_460 dL_law_461 dL_law_463 dL_law_464 dL_law_465 ?_
  refine jw_V (w := cw ad cy) (As := [.int (xs (i + 1)), .int (xs (i + 2))]) (rest := []) (st1 := [.int r]) (cw_as ad cy) E hK hA hG (c_c_X11_digits e1) Wd_497 mi_X11_digits ⟨Nat.le_of_ble_eq_true rfl, Nat.le_of_ble_eq_true rfl, by show _ ≤ 3131; omega, by show _ ≤ 137707; omega⟩ 12 0 rfl rfl rfl hl.1 rfl (Nat.le_of_ble_eq_true rfl) dL_law_466 rfl (fun H locs hG => ?_)
  refine lv_aload_n E.1 E.2.1 dL_law_469 rfl (lv_at hl 2 rfl) ?_
  refine l_arg 1 hE hG.2.2 hl 0 4 rfl rfl (by decide) (by omega) dL_law_470 dL_law_471 dL_law_473 dL_law_474 dL_law_475 ?_
  refine l_arg 2 hE hG.2.2 hl 0 4 rfl rfl (by decide) (by omega) dL_law_476 dL_law_477 dL_law_479 dL_law_480 dL_law_481 ?_
  have hG := KG.toM (o := o) (cl := cl) (f := f) hG
  refine jw_V (w := mw bd cy) (As := [.int (xs (i + 1)), .int (xs (i + 2))]) (rest := [.int r]) (st1 := [.int r, .int r]) (mw_as bd cy) E hK hA hG (c_m_X12_digits e2) Wd_930 mi_X12_digits ⟨Nat.le_of_ble_eq_true rfl, Nat.le_of_ble_eq_true rfl, by show _ ≤ 3131; omega, by show _ ≤ 137707; omega⟩ 13 0 rfl rfl rfl hl.1 rfl (Nat.le_of_ble_eq_true rfl) dL_law_482 rfl (fun H locs hG => ?_)
  refine lv_icmp_eq (tgt := 757) E.1 E.2.1 dL_law_485 (by decide) (fun _ => ?_) (fun hc => absurd rfl hc)
  exact W.widen (by omega) (by omega) (kk _ _ _ _ _ _ hR' hG.toC hl)
set_option maxHeartbeats 4000000 in
set_option maxRecDepth 100000 in
theorem lc_10 {p : Program} {l : Launch} {e : Env} {s : State} {m : MethodId} {args : Array Value} {below : List Frame} {meth : Method} {c : Code} {H : Heap} {locs : List Loc} {Q : State → Prop} {ls : Array Slot} {D : va_G} {ad bd : Nat → Nat} {cy cl : ClassId} {o b L i j C S : Nat} {xs : Nat → Int32} {sa : Nat → Nat} {σ τ : SS} {f : Nat → Int64} (hE : LE p l m c s args D cy cl b L xs sa) (hi : i + 3 < L) (hj : j < 2 ^ 30) (hC : C + 1 ≤ 3131 ∧ S + 6 ≤ 137707) (hR : Rel σ τ j) (hG : KG D (AL s) s H locs (LWs ad bd cy cl o σ τ f)) (hl : lv_has ls 8 [(0, .ref b), (1, .ref (ad 0)), (2, .ref (bd 0)), (3, .ref o), (4, .int (nI i))]) (kk : LK p l e s m args below meth c D ad bd cy cl o b i j C S Q) : W p l e room_1 s m args below meth c H locs C S Q (F0 m 490 ls []) := by
  have E := hE.1
  have hK := hE.2.1
  have hA : ∀ q, s.heap.size ≤ q → AL s q := fun _ h => h
  obtain ⟨r, σ', τ', e1, e2, hR'⟩ := rel_width hR (xs (i + 1)) (xs (i + 2))
  refine lv_aload_n E.1 E.2.1 dL_law_490 rfl (lv_at hl 1 rfl) ?_
  refine l_arg 1 hE hG.2.2 hl 0 4 rfl rfl (by decide) (by omega) dL_law_491 dL_law_492 dL_law_494 dL_law_495 dL_law_496 ?_
  refine l_arg 2 hE hG.2.2 hl 0 4 rfl rfl (by decide) (by omega) dL_law_497 dL_law_498 dL_law_500 dL_law_501 dL_law_502 ?_
  refine jw_V (w := cw ad cy) (As := [.int (xs (i + 1)), .int (xs (i + 2))]) (rest := []) (st1 := [.int r]) (cw_as ad cy) E hK hA hG (c_c_X11_width e1) Wd_503 mi_X11_width ⟨Nat.le_of_ble_eq_true rfl, Nat.le_of_ble_eq_true rfl, by show _ ≤ 3131; omega, by show _ ≤ 137707; omega⟩ 12 0 rfl rfl rfl hl.1 rfl (Nat.le_of_ble_eq_true rfl) dL_law_503 rfl (fun H locs hG => ?_)
  refine lv_aload_n E.1 E.2.1 dL_law_506 rfl (lv_at hl 2 rfl) ?_
  refine l_arg 1 hE hG.2.2 hl 0 4 rfl rfl (by decide) (by omega) dL_law_507 dL_law_508 dL_law_510 dL_law_511 dL_law_512 ?_
  refine l_arg 2 hE hG.2.2 hl 0 4 rfl rfl (by decide) (by omega) dL_law_513 dL_law_514 dL_law_516 dL_law_517 dL_law_518 ?_
  have hG := KG.toM (o := o) (cl := cl) (f := f) hG
  refine jw_V (w := mw bd cy) (As := [.int (xs (i + 1)), .int (xs (i + 2))]) (rest := [.int r]) (st1 := [.int r, .int r]) (mw_as bd cy) E hK hA hG (c_m_X12_width e2) Wd_935 mi_X12_width ⟨Nat.le_of_ble_eq_true rfl, Nat.le_of_ble_eq_true rfl, by show _ ≤ 3131; omega, by show _ ≤ 137707; omega⟩ 13 0 rfl rfl rfl hl.1 rfl (Nat.le_of_ble_eq_true rfl) dL_law_519 rfl (fun H locs hG => ?_)
  refine lv_icmp_eq (tgt := 757) E.1 E.2.1 dL_law_522 (by decide) (fun _ => ?_) (fun hc => absurd rfl hc)
  exact W.widen (by omega) (by omega) (kk _ _ _ _ _ _ hR' hG.toC hl)
set_option maxHeartbeats 4000000 in
set_option maxRecDepth 100000 in
theorem lc_11 {p : Program} {l : Launch} {e : Env} {s : State} {m : MethodId} {args : Array Value} {below : List Frame} {meth : Method} {c : Code} {H : Heap} {locs : List Loc} {Q : State → Prop} {ls : Array Slot} {D : va_G} {ad bd : Nat → Nat} {cy cl : ClassId} {o b L i j C S : Nat} {xs : Nat → Int32} {sa : Nat → Nat} {σ τ : SS} {f : Nat → Int64} (hE : LE p l m c s args D cy cl b L xs sa) (hi : i + 3 < L) (hj : j < 2 ^ 30) (hC : C + 1 ≤ 3131 ∧ S + 6 ≤ 137707) (hR : Rel σ τ j) (hG : KG D (AL s) s H locs (LWs ad bd cy cl o σ τ f)) (hl : lv_has ls 8 [(0, .ref b), (1, .ref (ad 0)), (2, .ref (bd 0)), (3, .ref o), (4, .int (nI i))]) (kk : LK p l e s m args below meth c D ad bd cy cl o b i j C S Q) : W p l e room_1 s m args below meth c H locs C S Q (F0 m 527 ls []) := by
  have E := hE.1
  have hK := hE.2.1
  have hA : ∀ q, s.heap.size ≤ q → AL s q := fun _ h => h
  obtain ⟨r, σ', τ', e1, e2, hR'⟩ := rel_bits hR (xs (i + 1))
  refine lv_aload_n E.1 E.2.1 dL_law_527 rfl (lv_at hl 1 rfl) ?_
  refine l_arg 1 hE hG.2.2 hl 0 4 rfl rfl (by decide) (by omega) dL_law_528 dL_law_529 dL_law_531 dL_law_532 dL_law_533 ?_
  refine jw_V (w := cw ad cy) (As := [.int (xs (i + 1))]) (rest := []) (st1 := [.int r]) (cw_as ad cy) E hK hA hG (c_c_X11_bits e1) Wd_534 mi_X11_bits ⟨Nat.le_of_ble_eq_true rfl, Nat.le_of_ble_eq_true rfl, by show _ ≤ 3131; omega, by show _ ≤ 137707; omega⟩ 12 0 rfl rfl rfl hl.1 rfl (Nat.le_of_ble_eq_true rfl) dL_law_534 rfl (fun H locs hG => ?_)
  refine lv_aload_n E.1 E.2.1 dL_law_537 rfl (lv_at hl 2 rfl) ?_
  refine l_arg 1 hE hG.2.2 hl 0 4 rfl rfl (by decide) (by omega) dL_law_538 dL_law_539 dL_law_541 dL_law_542 dL_law_543 ?_
  have hG := KG.toM (o := o) (cl := cl) (f := f) hG
  refine jw_V (w := mw bd cy) (As := [.int (xs (i + 1))]) (rest := [.int r]) (st1 := [.int r, .int r]) (mw_as bd cy) E hK hA hG (c_m_X12_bits e2) Wd_954 mi_X12_bits ⟨Nat.le_of_ble_eq_true rfl, Nat.le_of_ble_eq_true rfl, by show _ ≤ 3131; omega, by show _ ≤ 137707; omega⟩ 13 0 rfl rfl rfl hl.1 rfl (Nat.le_of_ble_eq_true rfl) dL_law_544 rfl (fun H locs hG => ?_)
  refine lv_icmp_eq (tgt := 757) E.1 E.2.1 dL_law_547 (by decide) (fun _ => ?_) (fun hc => absurd rfl hc)
  exact W.widen (by omega) (by omega) (kk _ _ _ _ _ _ hR' hG.toC hl)
set_option maxHeartbeats 4000000 in
set_option maxRecDepth 100000 in
theorem lc_12 {p : Program} {l : Launch} {e : Env} {s : State} {m : MethodId} {args : Array Value} {below : List Frame} {meth : Method} {c : Code} {H : Heap} {locs : List Loc} {Q : State → Prop} {ls : Array Slot} {D : va_G} {ad bd : Nat → Nat} {cy cl : ClassId} {o b L i j C S : Nat} {xs : Nat → Int32} {sa : Nat → Nat} {σ τ : SS} {f : Nat → Int64} (hE : LE p l m c s args D cy cl b L xs sa) (hi : i + 3 < L) (hj : j < 2 ^ 30) (hC : C + 1 ≤ 3131 ∧ S + 6 ≤ 137707) (hR : Rel σ τ j) (hG : KG D (AL s) s H locs (LWs ad bd cy cl o σ τ f)) (hl : lv_has ls 8 [(0, .ref b), (1, .ref (ad 0)), (2, .ref (bd 0)), (3, .ref o), (4, .int (nI i))]) (kk : LK p l e s m args below meth c D ad bd cy cl o b i j C S Q) : W p l e room_1 s m args below meth c H locs C S Q (F0 m 552 ls []) := by
  have E := hE.1
  have hK := hE.2.1
  have hA : ∀ q, s.heap.size ≤ q → AL s q := fun _ h => h
  obtain ⟨r, σ', τ', e1, e2, hR'⟩ := rel_pieces hR (xs (i + 1))
  refine lv_aload_n E.1 E.2.1 dL_law_552 rfl (lv_at hl 1 rfl) ?_
  refine l_arg 1 hE hG.2.2 hl 0 4 rfl rfl (by decide) (by omega) dL_law_553 dL_law_554 dL_law_556 dL_law_557 dL_law_558 ?_
  refine jw_V (w := cw ad cy) (As := [.int (xs (i + 1))]) (rest := []) (st1 := [.int r]) (cw_as ad cy) E hK hA hG (c_c_X11_pieces e1) Wd_538 mi_X11_pieces ⟨Nat.le_of_ble_eq_true rfl, Nat.le_of_ble_eq_true rfl, by show _ ≤ 3131; omega, by show _ ≤ 137707; omega⟩ 12 0 rfl rfl rfl hl.1 rfl (Nat.le_of_ble_eq_true rfl) dL_law_559 rfl (fun H locs hG => ?_)
  refine lv_aload_n E.1 E.2.1 dL_law_562 rfl (lv_at hl 2 rfl) ?_
  refine l_arg 1 hE hG.2.2 hl 0 4 rfl rfl (by decide) (by omega) dL_law_563 dL_law_564 dL_law_566 dL_law_567 dL_law_568 ?_
  have hG := KG.toM (o := o) (cl := cl) (f := f) hG
  refine jw_V (w := mw bd cy) (As := [.int (xs (i + 1))]) (rest := [.int r]) (st1 := [.int r, .int r]) (mw_as bd cy) E hK hA hG (c_m_X12_pieces e2) Wd_958 mi_X12_pieces ⟨Nat.le_of_ble_eq_true rfl, Nat.le_of_ble_eq_true rfl, by show _ ≤ 3131; omega, by show _ ≤ 137707; omega⟩ 13 0 rfl rfl rfl hl.1 rfl (Nat.le_of_ble_eq_true rfl) dL_law_569 rfl (fun H locs hG => ?_)
  refine lv_icmp_eq (tgt := 757) E.1 E.2.1 dL_law_572 (by decide) (fun _ => ?_) (fun hc => absurd rfl hc)
  exact W.widen (by omega) (by omega) (kk _ _ _ _ _ _ hR' hG.toC hl)
set_option maxHeartbeats 4000000 in
set_option maxRecDepth 100000 in
theorem lc_13 {p : Program} {l : Launch} {e : Env} {s : State} {m : MethodId} {args : Array Value} {below : List Frame} {meth : Method} {c : Code} {H : Heap} {locs : List Loc} {Q : State → Prop} {ls : Array Slot} {D : va_G} {ad bd : Nat → Nat} {cy cl : ClassId} {o b L i j C S : Nat} {xs : Nat → Int32} {sa : Nat → Nat} {σ τ : SS} {f : Nat → Int64} (hE : LE p l m c s args D cy cl b L xs sa) (hi : i + 3 < L) (hj : j < 2 ^ 30) (hC : C + 1 ≤ 3131 ∧ S + 6 ≤ 137707) (hR : Rel σ τ j) (hG : KG D (AL s) s H locs (LWs ad bd cy cl o σ τ f)) (hl : lv_has ls 8 [(0, .ref b), (1, .ref (ad 0)), (2, .ref (bd 0)), (3, .ref o), (4, .int (nI i))]) (kk : LK p l e s m args below meth c D ad bd cy cl o b i j C S Q) : W p l e room_1 s m args below meth c H locs C S Q (F0 m 577 ls []) := by
  have E := hE.1
  have hK := hE.2.1
  have hA : ∀ q, s.heap.size ≤ q → AL s q := fun _ h => h
  obtain ⟨r, σ', τ', e1, e2, hR'⟩ := rel_piece hR (xs (i + 1)) (xs (i + 2)) (xs (i + 3))
  refine lv_aload_n E.1 E.2.1 dL_law_577 rfl (lv_at hl 1 rfl) ?_
  refine l_arg 1 hE hG.2.2 hl 0 4 rfl rfl (by decide) (by omega) dL_law_578 dL_law_579 dL_law_581 dL_law_582 dL_law_583 ?_
  refine l_arg 2 hE hG.2.2 hl 0 4 rfl rfl (by decide) (by omega) dL_law_584 dL_law_585 dL_law_587 dL_law_588 dL_law_589 ?_
  refine l_arg 3 hE hG.2.2 hl 0 4 rfl rfl (by decide) (by omega) dL_law_590 dL_law_591 dL_law_593 dL_law_594 dL_law_595 ?_
  refine jw_V (w := cw ad cy) (As := [.int (xs (i + 1)), .int (xs (i + 2)), .int (xs (i + 3))]) (rest := []) (st1 := [.int r]) (cw_as ad cy) E hK hA hG (c_c_X11_piece e1) Wd_584 mi_X11_piece ⟨Nat.le_of_ble_eq_true rfl, Nat.le_of_ble_eq_true rfl, by show _ ≤ 3131; omega, by show _ ≤ 137707; omega⟩ 12 0 rfl rfl rfl hl.1 rfl (Nat.le_of_ble_eq_true rfl) dL_law_596 rfl (fun H locs hG => ?_)
  refine lv_aload_n E.1 E.2.1 dL_law_599 rfl (lv_at hl 2 rfl) ?_
  refine l_arg 1 hE hG.2.2 hl 0 4 rfl rfl (by decide) (by omega) dL_law_600 dL_law_601 dL_law_603 dL_law_604 dL_law_605 ?_
  refine l_arg 2 hE hG.2.2 hl 0 4 rfl rfl (by decide) (by omega) dL_law_606 dL_law_607 dL_law_609 dL_law_610 dL_law_611 ?_
  refine l_arg 3 hE hG.2.2 hl 0 4 rfl rfl (by decide) (by omega) dL_law_612 dL_law_613 dL_law_615 dL_law_616 dL_law_617 ?_
  have hG := KG.toM (o := o) (cl := cl) (f := f) hG
  refine jw_V (w := mw bd cy) (As := [.int (xs (i + 1)), .int (xs (i + 2)), .int (xs (i + 3))]) (rest := [.int r]) (st1 := [.int r, .int r]) (mw_as bd cy) E hK hA hG (c_m_X12_piece e2) Wd_986 mi_X12_piece ⟨Nat.le_of_ble_eq_true rfl, Nat.le_of_ble_eq_true rfl, by show _ ≤ 3131; omega, by show _ ≤ 137707; omega⟩ 13 0 rfl rfl rfl hl.1 rfl (Nat.le_of_ble_eq_true rfl) dL_law_618 rfl (fun H locs hG => ?_)
  refine lv_icmp_eq (tgt := 757) E.1 E.2.1 dL_law_621 (by decide) (fun _ => ?_) (fun hc => absurd rfl hc)
  exact W.widen (by omega) (by omega) (kk _ _ _ _ _ _ hR' hG.toC hl)
set_option maxHeartbeats 4000000 in
set_option maxRecDepth 100000 in
theorem lc_14 {p : Program} {l : Launch} {e : Env} {s : State} {m : MethodId} {args : Array Value} {below : List Frame} {meth : Method} {c : Code} {H : Heap} {locs : List Loc} {Q : State → Prop} {ls : Array Slot} {D : va_G} {ad bd : Nat → Nat} {cy cl : ClassId} {o b L i j C S : Nat} {xs : Nat → Int32} {sa : Nat → Nat} {σ τ : SS} {f : Nat → Int64} (hE : LE p l m c s args D cy cl b L xs sa) (hi : i + 3 < L) (hj : j < 2 ^ 30) (hC : C + 1 ≤ 3131 ∧ S + 6 ≤ 137707) (hR : Rel σ τ j) (hG : KG D (AL s) s H locs (LWs ad bd cy cl o σ τ f)) (hl : lv_has ls 8 [(0, .ref b), (1, .ref (ad 0)), (2, .ref (bd 0)), (3, .ref o), (4, .int (nI i))]) (kk : LK p l e s m args below meth c D ad bd cy cl o b i j C S Q) : W p l e room_1 s m args below meth c H locs C S Q (F0 m 626 ls []) := by
  have E := hE.1
  have hK := hE.2.1
  have hA : ∀ q, s.heap.size ≤ q → AL s q := fun _ h => h
  obtain ⟨r, σ', τ', e1, e2, hR'⟩ := rel_grammar hR (xs (i + 1))
  refine lv_aload_n E.1 E.2.1 dL_law_626 rfl (lv_at hl 1 rfl) ?_
  refine l_arg 1 hE hG.2.2 hl 0 4 rfl rfl (by decide) (by omega) dL_law_627 dL_law_628 dL_law_630 dL_law_631 dL_law_632 ?_
  refine jw_V (w := cw ad cy) (As := [.int (xs (i + 1))]) (rest := []) (st1 := [.int r]) (cw_as ad cy) E hK hA hG (c_c_X11_grammar e1) Wd_588 mi_X11_grammar ⟨Nat.le_of_ble_eq_true rfl, Nat.le_of_ble_eq_true rfl, by show _ ≤ 3131; omega, by show _ ≤ 137707; omega⟩ 12 0 rfl rfl rfl hl.1 rfl (Nat.le_of_ble_eq_true rfl) dL_law_633 rfl (fun H locs hG => ?_)
  refine lv_aload_n E.1 E.2.1 dL_law_636 rfl (lv_at hl 2 rfl) ?_
  refine l_arg 1 hE hG.2.2 hl 0 4 rfl rfl (by decide) (by omega) dL_law_637 dL_law_638 dL_law_640 dL_law_641 dL_law_642 ?_
  have hG := KG.toM (o := o) (cl := cl) (f := f) hG
  refine jw_V (w := mw bd cy) (As := [.int (xs (i + 1))]) (rest := [.int r]) (st1 := [.int r, .int r]) (mw_as bd cy) E hK hA hG (c_m_X12_grammar e2) Wd_990 mi_X12_grammar ⟨Nat.le_of_ble_eq_true rfl, Nat.le_of_ble_eq_true rfl, by show _ ≤ 3131; omega, by show _ ≤ 137707; omega⟩ 13 0 rfl rfl rfl hl.1 rfl (Nat.le_of_ble_eq_true rfl) dL_law_643 rfl (fun H locs hG => ?_)
  refine lv_icmp_eq (tgt := 757) E.1 E.2.1 dL_law_646 (by decide) (fun _ => ?_) (fun hc => absurd rfl hc)
  exact W.widen (by omega) (by omega) (kk _ _ _ _ _ _ hR' hG.toC hl)
set_option maxHeartbeats 4000000 in
set_option maxRecDepth 100000 in
theorem lc_15 {p : Program} {l : Launch} {e : Env} {s : State} {m : MethodId} {args : Array Value} {below : List Frame} {meth : Method} {c : Code} {H : Heap} {locs : List Loc} {Q : State → Prop} {ls : Array Slot} {D : va_G} {ad bd : Nat → Nat} {cy cl : ClassId} {o b L i j C S : Nat} {xs : Nat → Int32} {sa : Nat → Nat} {σ τ : SS} {f : Nat → Int64} (hE : LE p l m c s args D cy cl b L xs sa) (hi : i + 3 < L) (hj : j < 2 ^ 30) (hC : C + 1 ≤ 3131 ∧ S + 6 ≤ 137707) (hR : Rel σ τ j) (hG : KG D (AL s) s H locs (LWs ad bd cy cl o σ τ f)) (hl : lv_has ls 8 [(0, .ref b), (1, .ref (ad 0)), (2, .ref (bd 0)), (3, .ref o), (4, .int (nI i))]) (kk : LK p l e s m args below meth c D ad bd cy cl o b i j C S Q) : W p l e room_1 s m args below meth c H locs C S Q (F0 m 651 ls []) := by
  have E := hE.1
  have hK := hE.2.1
  have hA : ∀ q, s.heap.size ≤ q → AL s q := fun _ h => h
  obtain ⟨r, σ', τ', e1, e2, hR'⟩ := rel_rule hR (xs (i + 1)) (xs (i + 2))
  refine lv_aload_n E.1 E.2.1 dL_law_651 rfl (lv_at hl 1 rfl) ?_
  refine l_arg 1 hE hG.2.2 hl 0 4 rfl rfl (by decide) (by omega) dL_law_652 dL_law_653 dL_law_655 dL_law_656 dL_law_657 ?_
  refine l_arg 2 hE hG.2.2 hl 0 4 rfl rfl (by decide) (by omega) dL_law_658 dL_law_659 dL_law_661 dL_law_662 dL_law_663 ?_
  refine jw_V (w := cw ad cy) (As := [.int (xs (i + 1)), .int (xs (i + 2))]) (rest := []) (st1 := [.int r]) (cw_as ad cy) E hK hA hG (c_c_X11_rule e1) Wd_624 mi_X11_rule ⟨Nat.le_of_ble_eq_true rfl, Nat.le_of_ble_eq_true rfl, by show _ ≤ 3131; omega, by show _ ≤ 137707; omega⟩ 12 0 rfl rfl rfl hl.1 rfl (Nat.le_of_ble_eq_true rfl) dL_law_664 rfl (fun H locs hG => ?_)
  refine lv_aload_n E.1 E.2.1 dL_law_667 rfl (lv_at hl 2 rfl) ?_
  refine l_arg 1 hE hG.2.2 hl 0 4 rfl rfl (by decide) (by omega) dL_law_668 dL_law_669 dL_law_671 dL_law_672 dL_law_673 ?_
  refine l_arg 2 hE hG.2.2 hl 0 4 rfl rfl (by decide) (by omega) dL_law_674 dL_law_675 dL_law_677 dL_law_678 dL_law_679 ?_
  have hG := KG.toM (o := o) (cl := cl) (f := f) hG
  refine jw_V (w := mw bd cy) (As := [.int (xs (i + 1)), .int (xs (i + 2))]) (rest := [.int r]) (st1 := [.int r, .int r]) (mw_as bd cy) E hK hA hG (c_m_X12_rule e2) Wd_1010 mi_X12_rule ⟨Nat.le_of_ble_eq_true rfl, Nat.le_of_ble_eq_true rfl, by show _ ≤ 3131; omega, by show _ ≤ 137707; omega⟩ 13 0 rfl rfl rfl hl.1 rfl (Nat.le_of_ble_eq_true rfl) dL_law_680 rfl (fun H locs hG => ?_)
  refine lv_icmp_eq (tgt := 757) E.1 E.2.1 dL_law_683 (by decide) (fun _ => ?_) (fun hc => absurd rfl hc)
  exact W.widen (by omega) (by omega) (kk _ _ _ _ _ _ hR' hG.toC hl)
set_option maxHeartbeats 4000000 in
set_option maxRecDepth 100000 in
theorem lc_16 {p : Program} {l : Launch} {e : Env} {s : State} {m : MethodId} {args : Array Value} {below : List Frame} {meth : Method} {c : Code} {H : Heap} {locs : List Loc} {Q : State → Prop} {ls : Array Slot} {D : va_G} {ad bd : Nat → Nat} {cy cl : ClassId} {o b L i j C S : Nat} {xs : Nat → Int32} {sa : Nat → Nat} {σ τ : SS} {f : Nat → Int64} (hE : LE p l m c s args D cy cl b L xs sa) (hi : i + 3 < L) (hj : j < 2 ^ 30) (hC : C + 1 ≤ 3131 ∧ S + 6 ≤ 137707) (hR : Rel σ τ j) (hG : KG D (AL s) s H locs (LWs ad bd cy cl o σ τ f)) (hl : lv_has ls 8 [(0, .ref b), (1, .ref (ad 0)), (2, .ref (bd 0)), (3, .ref o), (4, .int (nI i))]) (kk : LK p l e s m args below meth c D ad bd cy cl o b i j C S Q) : W p l e room_1 s m args below meth c H locs C S Q (F0 m 688 ls []) := by
  have E := hE.1
  have hK := hE.2.1
  have hA : ∀ q, s.heap.size ≤ q → AL s q := fun _ h => h
  refine lv_aload_n E.1 E.2.1 dL_law_688 rfl (lv_at hl 1 rfl) ?_
  refine l_arg 1 hE hG.2.2 hl 0 4 rfl rfl (by decide) (by omega) dL_law_689 dL_law_690 dL_law_692 dL_law_693 dL_law_694 ?_
  refine lv_aload_n E.1 E.2.1 dL_law_695 rfl (lv_at hl 3 rfl) ?_
  obtain ⟨b0, σ', τ', e1, e2, hR', hb⟩ := rel_symbol hR (xs (i + 1))
  rcases hb with ⟨h1, hth⟩ | ⟨h1, hth, e3⟩
  · refine j_H (k := 1) hE hG (h_symbol_1 hE.2.2.2.2.2.2.1 e1 h1) Wd_735 Wd_736 Wd_41 Wd_737 (by decide +kernel) ⟨Nat.le_of_ble_eq_true rfl, Nat.le_of_ble_eq_true rfl, hC.1, hC.2⟩ hl.1 rfl (Nat.le_of_ble_eq_true rfl) dL_law_696 (fun H locs hG => ?_)
    refine lv_istore (lv' := [(5, .int 1), (0, .ref b), (1, .ref (ad 0)), (2, .ref (bd 0)), (3, .ref o), (4, .int (nI i))]) E.1 E.2.1 dL_law_699 hl (by decide) rfl (fun ls hl => ?_)
    refine lv_aload_n E.1 E.2.1 dL_law_701 rfl (lv_at hl 3 rfl) ?_
    refine l_arg 1 hE hG.2.2 hl 1 5 rfl rfl (by decide) (by omega) dL_law_702 dL_law_703 dL_law_705 dL_law_706 dL_law_707 ?_
    have hG := hG.toM
    refine jw_V (w := mw bd cy) (As := [.int (xs (i + 1))]) (rest := []) (st1 := [.int b0]) (mw_as bd cy) E hK hA hG (c_m_X12_symbol e2) Wd_1015 mi_X12_symbol ⟨Nat.le_of_ble_eq_true rfl, Nat.le_of_ble_eq_true rfl, by show _ ≤ 3131; omega, by show _ ≤ 137707; omega⟩ 13 0 rfl rfl rfl hl.1 rfl (Nat.le_of_ble_eq_true rfl) dL_law_708 rfl (fun H locs hG => ?_)
    refine lv_istore (lv' := [(6, .int b0), (5, .int 1), (0, .ref b), (1, .ref (ad 0)), (2, .ref (bd 0)), (3, .ref o), (4, .int (nI i))]) E.1 E.2.1 dL_law_711 hl (by decide) rfl (fun ls hl => ?_)
    refine lv_aload_n E.1 E.2.1 dL_law_713 rfl (lv_at hl 4 rfl) ?_
    refine jw_V (w := mw bd cy) (As := []) (rest := []) (st1 := [.int (τ'.1 0)]) (mw_as bd cy) E hK hA hG (c_m_X12_thrown (show f_m_X12_thrown τ' = some (τ'.1 0, τ') from rfl)) Wd_825 mi_X12_thrown ⟨Nat.le_of_ble_eq_true rfl, Nat.le_of_ble_eq_true rfl, by show _ ≤ 3131; omega, by show _ ≤ 137707; omega⟩ 13 0 rfl rfl rfl hl.1 rfl (Nat.le_of_ble_eq_true rfl) dL_law_714 rfl (fun H locs hG => ?_)
    refine lv_iload E.1 E.2.1 dL_law_717 (lv_at hl 1 rfl) ?_
    refine lv_icmp_eq (tgt := 724) E.1 E.2.1 dL_law_719 (by decide) (fun _ => ?_) (fun hc => absurd hth hc)
    have hG := hG.toC
    refine lv_iload E.1 E.2.1 dL_law_724 (lv_at hl 1 rfl) ?_
    refine lv_if_ne (tgt := 741) E.1 E.2.1 dL_law_726 (by decide) (fun _ => ?_) (fun hc => absurd hc (by decide))
    refine lv_goto (tgt := 757) E.1 E.2.1 dL_law_741 (by decide) ?_
    exact kk _ _ _ _ _ _ hR' hG (lv_sub hl [2, 3, 4, 5, 6] rfl)
  · refine j_H (k := 0) hE hG (h_symbol_0 e3) Wd_735 Wd_736 Wd_41 Wd_737 (by decide +kernel) ⟨Nat.le_of_ble_eq_true rfl, Nat.le_of_ble_eq_true rfl, hC.1, hC.2⟩ hl.1 rfl (Nat.le_of_ble_eq_true rfl) dL_law_696 (fun H locs hG => ?_)
    refine lv_istore (lv' := [(5, .int 0), (0, .ref b), (1, .ref (ad 0)), (2, .ref (bd 0)), (3, .ref o), (4, .int (nI i))]) E.1 E.2.1 dL_law_699 hl (by decide) rfl (fun ls hl => ?_)
    refine lv_aload_n E.1 E.2.1 dL_law_701 rfl (lv_at hl 3 rfl) ?_
    refine l_arg 1 hE hG.2.2 hl 1 5 rfl rfl (by decide) (by omega) dL_law_702 dL_law_703 dL_law_705 dL_law_706 dL_law_707 ?_
    have hG := hG.toM
    refine jw_V (w := mw bd cy) (As := [.int (xs (i + 1))]) (rest := []) (st1 := [.int b0]) (mw_as bd cy) E hK hA hG (c_m_X12_symbol e2) Wd_1015 mi_X12_symbol ⟨Nat.le_of_ble_eq_true rfl, Nat.le_of_ble_eq_true rfl, by show _ ≤ 3131; omega, by show _ ≤ 137707; omega⟩ 13 0 rfl rfl rfl hl.1 rfl (Nat.le_of_ble_eq_true rfl) dL_law_708 rfl (fun H locs hG => ?_)
    refine lv_istore (lv' := [(6, .int b0), (5, .int 0), (0, .ref b), (1, .ref (ad 0)), (2, .ref (bd 0)), (3, .ref o), (4, .int (nI i))]) E.1 E.2.1 dL_law_711 hl (by decide) rfl (fun ls hl => ?_)
    refine lv_aload_n E.1 E.2.1 dL_law_713 rfl (lv_at hl 4 rfl) ?_
    refine jw_V (w := mw bd cy) (As := []) (rest := []) (st1 := [.int (τ'.1 0)]) (mw_as bd cy) E hK hA hG (c_m_X12_thrown (show f_m_X12_thrown τ' = some (τ'.1 0, τ') from rfl)) Wd_825 mi_X12_thrown ⟨Nat.le_of_ble_eq_true rfl, Nat.le_of_ble_eq_true rfl, by show _ ≤ 3131; omega, by show _ ≤ 137707; omega⟩ 13 0 rfl rfl rfl hl.1 rfl (Nat.le_of_ble_eq_true rfl) dL_law_714 rfl (fun H locs hG => ?_)
    refine lv_iload E.1 E.2.1 dL_law_717 (lv_at hl 1 rfl) ?_
    refine lv_icmp_eq (tgt := 724) E.1 E.2.1 dL_law_719 (by decide) (fun _ => ?_) (fun hc => absurd hth hc)
    have hG := hG.toC
    refine lv_iload E.1 E.2.1 dL_law_724 (lv_at hl 1 rfl) ?_
    refine lv_if_ne (tgt := 741) E.1 E.2.1 dL_law_726 (by decide) (fun hc => absurd rfl hc) (fun _ => ?_)
    refine lv_aload_n E.1 E.2.1 dL_law_729 rfl (lv_at hl 5 rfl) ?_
    refine lv_iconst (v := (0 : Int32)) E.1 E.2.1 dL_law_730 (by decide) ?_
    refine va_lald E.1 E.2.1 hE.2.2.1 hG.1 55 0 (cA := cl) (n := 1) (a := o) rfl rfl (show ¬ ((0 : Int32) < 0 ∨ 1 ≤ (0 : Int32).toNatClampNeg) by decide) dL_law_731 ?_
    refine lv_iload E.1 E.2.1 dL_law_732 (lv_at hl 0 rfl) ?_
    refine lv_i2l E.1 E.2.1 dL_law_734 rfl ?_
    refine W.lcmp E.1 E.2.1 dL_law_735 ?_
    refine lv_if_eq (tgt := 741) E.1 E.2.1 dL_law_736 (by decide) (fun _ => ?_) (fun hc => absurd (lg_same _) hc)
    refine lv_goto (tgt := 757) E.1 E.2.1 dL_law_741 (by decide) ?_
    exact kk _ _ _ _ _ _ hR' hG (lv_sub hl [2, 3, 4, 5, 6] rfl)
set_option maxHeartbeats 4000000 in
set_option maxRecDepth 100000 in
theorem lc_17 {p : Program} {l : Launch} {e : Env} {s : State} {m : MethodId} {args : Array Value} {below : List Frame} {meth : Method} {c : Code} {H : Heap} {locs : List Loc} {Q : State → Prop} {ls : Array Slot} {D : va_G} {ad bd : Nat → Nat} {cy cl : ClassId} {o b L i j C S : Nat} {xs : Nat → Int32} {sa : Nat → Nat} {σ τ : SS} {f : Nat → Int64} (hE : LE p l m c s args D cy cl b L xs sa) (hi : i + 3 < L) (hj : j < 2 ^ 30) (hC : C + 1 ≤ 3131 ∧ S + 6 ≤ 137707) (hR : Rel σ τ j) (hG : KG D (AL s) s H locs (LWs ad bd cy cl o σ τ f)) (hl : lv_has ls 8 [(0, .ref b), (1, .ref (ad 0)), (2, .ref (bd 0)), (3, .ref o), (4, .int (nI i))]) (kk : LK p l e s m args below meth c D ad bd cy cl o b i j C S Q) : W p l e room_1 s m args below meth c H locs C S Q (F0 m 744 ls []) := by
  have E := hE.1
  have hK := hE.2.1
  have hA : ∀ q, s.heap.size ≤ q → AL s q := fun _ h => h
  obtain ⟨r, σ', τ', e1, e2, hR'⟩ := rel_length hR
  refine lv_aload_n E.1 E.2.1 dL_law_744 rfl (lv_at hl 1 rfl) ?_
  refine jw_V (w := cw ad cy) (As := []) (rest := []) (st1 := [.int r]) (cw_as ad cy) E hK hA hG (c_c_X11_length e1) Wd_628 mi_X11_length ⟨Nat.le_of_ble_eq_true rfl, Nat.le_of_ble_eq_true rfl, by show _ ≤ 3131; omega, by show _ ≤ 137707; omega⟩ 12 0 rfl rfl rfl hl.1 rfl (Nat.le_of_ble_eq_true rfl) dL_law_745 rfl (fun H locs hG => ?_)
  refine lv_aload_n E.1 E.2.1 dL_law_748 rfl (lv_at hl 2 rfl) ?_
  have hG := KG.toM (o := o) (cl := cl) (f := f) hG
  refine jw_V (w := mw bd cy) (As := []) (rest := [.int r]) (st1 := [.int r, .int r]) (mw_as bd cy) E hK hA hG (c_m_X12_length e2) Wd_844 mi_X12_length ⟨Nat.le_of_ble_eq_true rfl, Nat.le_of_ble_eq_true rfl, by show _ ≤ 3131; omega, by show _ ≤ 137707; omega⟩ 13 0 rfl rfl rfl hl.1 rfl (Nat.le_of_ble_eq_true rfl) dL_law_749 rfl (fun H locs hG => ?_)
  refine lv_icmp_eq (tgt := 757) E.1 E.2.1 dL_law_752 (by decide) (fun _ => ?_) (fun hc => absurd rfl hc)
  exact W.widen (by omega) (by omega) (kk _ _ _ _ _ _ hR' hG.toC hl)
