/-! what the two objects have in common, and that every call keeps it -/
def Sn (x : Int32) (c : Nat) : Prop := x = -1 ∨ ∃ j, j ≤ c ∧ x = nI j
def Rel (σ τ : SS) (ch : Nat) : Prop := ∃ (t : Nat → Nat) (n : Nat) (w : Nat → Nat) (K c : Nat), Tc σ t n ∧ Tm τ t n ∧ Wt σ τ w ∧ CtxI σ t n K ∧ τ.1 2 = nI K ∧ Lg σ ∧ (σ.1 8 = σ.1 1 → Wd σ t n) ∧ PcI σ t n ∧ (σ.1 16 = σ.1 1 → Gr σ t n) ∧ Gm τ ∧ c ≤ ch ∧ σ.1 1 = nI c ∧ Sn (σ.1 6) c ∧ Sn (σ.1 8) c ∧ Sn (σ.1 10) c ∧ Sn (σ.1 12) c ∧ Sn (σ.1 16) c
theorem Rel.up {σ τ : SS} {ch ch' : Nat} (h : Rel σ τ ch) (hc : ch ≤ ch') : Rel σ τ ch' := by
  obtain ⟨t, n, w, K, c, a1, a2, a3, a4, a5, a6, a7, a8, a9, a10, a11, a12⟩ := h
  exact ⟨t, n, w, K, c, a1, a2, a3, a4, a5, a6, a7, a8, a9, a10, by omega, a12⟩
theorem Sn.next {x : Int32} {c : Nat} (h : Sn x c) (hc : c < 2 ^ 30) : Sn x (c + 1) ∧ ¬ x = nI (c + 1) := by
  rcases h with h | ⟨j, h1, h2⟩
  · exact ⟨Or.inl h, fun q => nI_m1 (show c + 1 < 2 ^ 31 by omega) (q.symm.trans h)⟩
  · exact ⟨Or.inr ⟨j, by omega, h2⟩, fun q => by
      have := (nI_eq (show j < 2 ^ 31 by omega) (show c + 1 < 2 ^ 31 by omega)).mp (h2.symm.trans q)
      omega⟩
theorem Sn.mv {x y u : Int32} {c : Nat} (h : Sn x c) (h' : y = x ∨ y = u) (hu : u = nI c) : Sn y c := by
  rcases h' with e | e
  · rw [e]; exact h
  · exact Or.inr ⟨c, Nat.le_refl c, e.trans hu⟩
theorem CtxI.fr {I A : List Nat} {σ σ' : SS} {t : Nat → Nat} {n K : Nat} (h : CtxI σ t n K) (f : fr I A σ σ') (h0 : 1 ∉ I ∧ 3 ∉ I ∧ 4 ∉ I ∧ 5 ∉ I ∧ 6 ∉ I) (h1 : 3 ∉ A ∧ 4 ∉ A ∧ 5 ∉ A ∧ 6 ∉ A ∧ 7 ∉ A) : CtxI σ' t n K :=
  ⟨h.1, (f.1 3 h0.2.1).trans h.2.1, fun q => (h.2.2 (by rw [← f.1 6 h0.2.2.2.2, ← f.1 1 h0.1]; exact q)).fr f ⟨h0.2.2.1, h0.2.2.2.1⟩ h1⟩
theorem PcI.fr {I A : List Nat} {σ σ' : SS} {t : Nat → Nat} {n : Nat} (h : PcI σ t n) (f : fr I A σ σ') (h0 : 1 ∉ I ∧ 9 ∉ I ∧ 10 ∉ I ∧ 11 ∉ I ∧ 12 ∉ I) (h1 : 13 ∉ A ∧ 14 ∉ A ∧ 15 ∉ A ∧ 16 ∉ A ∧ 17 ∉ A ∧ 18 ∉ A) : PcI σ' t n :=
  ⟨fun q => (h.1 (by rw [← f.1 10 h0.2.2.1, ← f.1 1 h0.1]; exact q)).fr f h0.2.1 ⟨h1.1, h1.2.1, h1.2.2.1⟩, fun q => (h.2 (by rw [← f.1 12 h0.2.2.2.2, ← f.1 1 h0.1]; exact q)).fr f h0.2.2.2.1 h1.2.2.2⟩
theorem wd_fr {I A : List Nat} {σ σ' : SS} {t : Nat → Nat} {n : Nat} (h : σ.1 8 = σ.1 1 → Wd σ t n) (f : fr I A σ σ') (h0 : 1 ∉ I ∧ 8 ∉ I) (h1 : 10 ∉ A) : σ'.1 8 = σ'.1 1 → Wd σ' t n :=
  fun q => (h (by rw [← f.1 8 h0.2, ← f.1 1 h0.1]; exact q)).fr f h1
theorem gr_fr {I A : List Nat} {σ σ' : SS} {t : Nat → Nat} {n : Nat} (h : σ.1 16 = σ.1 1 → Gr σ t n) (f : fr I A σ σ') (h0 : 1 ∉ I ∧ 14 ∉ I ∧ 15 ∉ I ∧ 16 ∉ I) (h1 : 25 ∉ A ∧ 26 ∉ A ∧ 27 ∉ A) : σ'.1 16 = σ'.1 1 → Gr σ' t n :=
  fun q => (h (by rw [← f.1 16 h0.2.2.2, ← f.1 1 h0.1]; exact q)).fr f ⟨h0.2.1, h0.2.2.1⟩ h1
/-- both calls answer alike and keep what is common -/
def Both {α : Type} (oc om : Option (α × SS)) (ch : Nat) : Prop := ∃ r σ' τ', oc = some (r, σ') ∧ om = some (r, τ') ∧ Rel σ' τ' ch
/-- the text changes -/
theorem Rel.text {σ τ σ' τ' : SS} {ch : Nat} {t t' : Nat → Nat} {n n' K c : Nat} {w : Nat → Nat} (hch : ch < 2 ^ 30) (h1 : Tc σ' t' n') (h2 : Tm τ' t' n') (h3 : Wt σ τ w) (h4 : CtxI σ t n K) (h5 : τ.1 2 = nI K) (h6 : Lg σ) (h10 : Gm τ) (hc : c ≤ ch) (e1 : σ.1 1 = nI c) (s6 : Sn (σ.1 6) c) (s8 : Sn (σ.1 8) c) (s10 : Sn (σ.1 10) c) (s12 : Sn (σ.1 12) c) (s16 : Sn (σ.1 16) c) (f : fr [0, 1] [0, 1] σ σ') (f' : fr [0, 1] [0] τ τ') (e : σ'.1 1 = σ.1 1 + 1) : Rel σ' τ' (ch + 1) := by
  have e' : σ'.1 1 = nI (c + 1) := by rw [e, e1, nI_1]
  have g6 : σ'.1 6 = σ.1 6 := f.1 6 (by decide)
  have g8 : σ'.1 8 = σ.1 8 := f.1 8 (by decide)
  have g10 : σ'.1 10 = σ.1 10 := f.1 10 (by decide)
  have g12 : σ'.1 12 = σ.1 12 := f.1 12 (by decide)
  have g16 : σ'.1 16 = σ.1 16 := f.1 16 (by decide)
  refine ⟨t', n', w, K, c + 1, h1, h2, h3.fr f f' (by decide) (by decide) (by decide), ⟨h4.1, (f.1 3 (by decide)).trans h4.2.1, fun q => ?_⟩, (f'.1 2 (by decide)).trans h5, h6.fr f (by decide), fun q => ?_, ⟨fun q => ?_, fun q => ?_⟩, fun q => ?_, h10.fr f' (by decide) (by decide), by omega, e', ?_, ?_, ?_, ?_, ?_⟩
  · rw [g6, e'] at q; exact absurd q (s6.next (by omega)).2
  · rw [g8, e'] at q; exact absurd q (s8.next (by omega)).2
  · rw [g10, e'] at q; exact absurd q (s10.next (by omega)).2
  · rw [g12, e'] at q; exact absurd q (s12.next (by omega)).2
  · rw [g16, e'] at q; exact absurd q (s16.next (by omega)).2
  · rw [g6]; exact (s6.next (by omega)).1
  · rw [g8]; exact (s8.next (by omega)).1
  · rw [g10]; exact (s10.next (by omega)).1
  · rw [g12]; exact (s12.next (by omega)).1
  · rw [g16]; exact (s16.next (by omega)).1
/-- the reference alone changes, apart from what is common -/
theorem Rel.ref {σ τ τ' : SS} {ch : Nat} (h : Rel σ τ ch) (f' : fr [0] [] τ τ') : Rel σ τ' ch := by
  obtain ⟨t, n, w, K, c, a1, a2, a3, a4, a5, a6, a7, a8, a9, a10, a11⟩ := h
  exact ⟨t, n, w, K, c, a1, a2.fr f' (by decide) (by decide), a3.fr (fr.rf (I := []) (A := []) σ) f' (by decide) (by decide) (by decide), a4, (f'.1 2 (by decide)).trans a5, a6, a7, a8, a9, a10.fr f' (by decide) (by decide), a11⟩
theorem rel_sign {σ τ : SS} {ch : Nat} (hch : ch < 2 ^ 30) (h : Rel σ τ ch) (x : Int32) : Both (f_c_X11_sign σ x) (f_m_X12_sign τ x) (ch + 1) := by
  have hR := h
  obtain ⟨t, n, w, K, c, a1, a2, a3, a4, a5, a6, a7, a8, a9, a10, a11, a12, s6, s8, s10, s12, s16⟩ := h
  obtain ⟨r, σ', e1, hc⟩ := sign_c a1 x
  obtain ⟨r', τ', e2, f2, hm⟩ := sign_m a2 x
  have same : σ' = σ → Tm τ' t n → Rel σ' τ' (ch + 1) := fun e hT => by
    rw [e]
    exact ⟨t, n, w, K, c, a1, hT, a3.fr (fr.rf (I := []) (A := []) σ) f2 (by decide) (by decide) (by decide), a4, (f2.1 2 (by decide)).trans a5, a6, a7, a8, a9, a10.fr f2 (by decide) (by decide), by omega, a12, s6, s8, s10, s12, s16⟩
  rcases hc with ⟨c1, c2, c3⟩ | ⟨c1, c2, c3, c4⟩ | ⟨c1, c2, s, c3, c4, c5, c6, c7, c8⟩
  · rcases hm with ⟨m1, m2, m3⟩ | ⟨m1, m2, -⟩ | ⟨m1, m2, s, m3, m4, m5, -⟩
    · exact ⟨r, σ', τ', e1, by rw [e2, m1, c1], same c3 m3⟩
    · exact absurd c2 m2
    · exact absurd c2 m5
  · rcases hm with ⟨m1, m2, m3⟩ | ⟨m1, m2, m3, m4⟩ | ⟨m1, m2, -⟩
    · exact absurd m2 c2
    · exact ⟨r, σ', τ', e1, by rw [e2, m1, c1], same c4 m4⟩
    · omega
  · rcases hm with ⟨m1, m2, m3⟩ | ⟨m1, m2, m3, m4⟩ | ⟨m1, m2, s', m3, m4, m5, m6⟩
    · exact absurd m2 c5
    · omega
    · have : s = s' := (nI_eq (by omega) (by omega)).mp (c4.symm.trans m4)
      subst this
      exact ⟨r, σ', τ', e1, by rw [e2, m1, c1], Rel.text hch c6 m6 a3 a4 a5 a6 a10 a11 a12 s6 s8 s10 s12 s16 c7 f2 c8⟩
theorem rel_wipe {σ τ : SS} {ch : Nat} (hch : ch < 2 ^ 30) (h : Rel σ τ ch) : Both (f_c_X11_wipe σ) (f_m_X12_wipe τ) (ch + 1) := by
  obtain ⟨t, n, w, K, c, a1, a2, a3, a4, a5, a6, a7, a8, a9, a10, a11, a12, s6, s8, s10, s12, s16⟩ := h
  obtain ⟨σ', e1, c6, c7, c8⟩ := wipe_c a1
  obtain ⟨τ', e2, m6, f2⟩ := wipe_m a2
  exact ⟨_, σ', τ', e1, e2, Rel.text hch c6 m6 a3 a4 a5 a6 a10 a11 a12 s6 s8 s10 s12 s16 (c7.up (by decide) (by decide)) (f2.up (by decide) (by decide)) c8⟩
theorem rel_length {σ τ : SS} {ch : Nat} (h : Rel σ τ ch) : Both (f_c_X11_length σ) (f_m_X12_length τ) (ch + 1) := by
  have h' := h
  obtain ⟨t, n, w, K, c, a1, a2, -⟩ := h
  exact ⟨_, σ, _, length_c a1, length_m a2, (h'.ref ((fr.rf τ).pI (by decide))).up (by omega)⟩
/-- contexts, logs -/
theorem Rel.ctx {σ τ σ' τ' : SS} {ch : Nat} {t : Nat → Nat} {n K K' c : Nat} {w : Nat → Nat} (a1 : Tc σ t n) (a2 : Tm τ t n) (a3 : Wt σ τ w) (a7 : σ.1 8 = σ.1 1 → Wd σ t n) (a8 : PcI σ t n) (a9 : σ.1 16 = σ.1 1 → Gr σ t n) (a10 : Gm τ) (a11 : c ≤ ch) (a12 : σ.1 1 = nI c) (s6 : Sn (σ.1 6) c) (s8 : Sn (σ.1 8) c) (s10 : Sn (σ.1 10) c) (s12 : Sn (σ.1 12) c) (s16 : Sn (σ.1 16) c)
    (f : fr [3, 4, 5, 6] [3, 4, 5, 6, 7, 8, 9] σ σ') (f' : fr [0, 2, 3] [2, 3, 4] τ τ') (h4 : CtxI σ' t n K') (h5 : τ'.1 2 = nI K') (h6 : Lg σ') (h7 : σ'.1 6 = σ.1 6 ∨ σ'.1 6 = σ.1 1) : Rel σ' τ' (ch + 1) :=
  ⟨t, n, w, K', c, a1.fr f (by decide) (by decide) (by decide), a2.fr f' (by decide) (by decide), a3.fr f f' (by decide) (by decide) (by decide), h4, h5, h6, wd_fr a7 f (by decide) (by decide), a8.fr f (by decide) (by decide), gr_fr a9 f (by decide) (by decide), a10.fr f' (by decide) (by decide), by omega, (f.1 1 (by decide)).trans a12, s6.mv h7 a12, by rw [f.1 8 (by decide)]; exact s8, by rw [f.1 10 (by decide)]; exact s10, by rw [f.1 12 (by decide)]; exact s12, by rw [f.1 16 (by decide)]; exact s16⟩
theorem rel_order {σ τ : SS} {ch : Nat} (hch : ch < 2 ^ 30) (h : Rel σ τ ch) (x : Int32) : Both (f_c_X11_order σ x) (f_m_X12_order τ x) (ch + 1) := by
  obtain ⟨t, n, w, K, c, a1, a2, a3, a4, a5, a6, a7, a8, a9, a10, a11, a12, s6, s8, s10, s12, s16⟩ := h
  obtain ⟨r, σ', τ', K', e1, e2, b1, b2, b3, b4, b5⟩ := order_both a1 a2 a4 a5 (by rw [a12]; exact nI_m1 (by omega)) x
  exact ⟨r, σ', τ', e1, e2, Rel.ctx (K := K) a1 a2 a3 a7 a8 a9 a10 a11 a12 s6 s8 s10 s12 s16 (b4.up (by decide) (by decide)) (b5.up (by decide) (by decide)) b1 b2 (a6.fr b4 (by decide)) b3⟩
theorem rel_context {σ τ : SS} {ch : Nat} (h : Rel σ τ ch) (x y : Int32) : Both (f_c_X11_context σ x y) (f_m_X12_context τ x y) (ch + 1) := by
  obtain ⟨t, n, w, K, c, a1, a2, a3, a4, a5, a6, a7, a8, a9, a10, a11, a12, s6, s8, s10, s12, s16⟩ := h
  obtain ⟨r, σ', τ', e1, e2, b1, b3, b4, b5⟩ := context_both a1 a2 a4 a5 x y
  exact ⟨r, σ', τ', e1, e2, Rel.ctx (K := K) a1 a2 a3 a7 a8 a9 a10 a11 a12 s6 s8 s10 s12 s16 (b4.up (by decide) (by decide)) (b5.up (by decide) (by decide)) b1 ((b5.1 2 (by decide)).trans a5) (a6.fr b4 (by decide)) (Or.inr b3)⟩
theorem rel_count {σ τ : SS} {ch : Nat} (h : Rel σ τ ch) (x y : Int32) : Both (f_c_X11_count σ x y) (f_m_X12_count τ x y) (ch + 1) := by
  obtain ⟨t, n, w, K, c, a1, a2, a3, a4, a5, a6, a7, a8, a9, a10, a11, a12, s6, s8, s10, s12, s16⟩ := h
  obtain ⟨r, σ', τ', e1, e2, b1, b3, b4, b5⟩ := count_both a1 a2 a4 a5 x y
  exact ⟨r, σ', τ', e1, e2, Rel.ctx (K := K) a1 a2 a3 a7 a8 a9 a10 a11 a12 s6 s8 s10 s12 s16 (b4.up (by decide) (by decide)) (b5.up (by decide) (by decide)) b1 ((b5.1 2 (by decide)).trans a5) (a6.fr b4 (by decide)) (Or.inr b3)⟩
theorem rel_log {σ τ : SS} {ch : Nat} (h : Rel σ τ ch) (x y z : Int32) : Both (f_c_X11_log σ x y z) (f_m_X12_log τ x y z) (ch + 1) := by
  obtain ⟨t, n, w, K, c, a1, a2, a3, a4, a5, a6, a7, a8, a9, a10, a11, a12, s6, s8, s10, s12, s16⟩ := h
  obtain ⟨r, σ', τ', e1, e2, b4, b6, b5⟩ := log_both (τ := τ) a6 x y z
  exact ⟨r, σ', τ', e1, e2, Rel.ctx (K := K) a1 a2 a3 a7 a8 a9 a10 a11 a12 s6 s8 s10 s12 s16 (b4.up (by decide) (by decide)) (b5.up (by decide) (by decide)) (a4.fr b4 (by decide) (by decide)) ((b5.1 2 (by decide)).trans a5) b6 (Or.inl (b4.1 6 (by decide)))⟩
theorem Wt.c {σ τ : SS} {w : Nat → Nat} (h : Wt σ τ w) : Wc σ w := ⟨fun s hs => ⟨(h.1 s hs).1, (h.1 s hs).2.1⟩, h.2⟩
theorem Wt.m {σ τ : SS} {w : Nat → Nat} (h : Wt σ τ w) : Wm τ w := fun s hs => ⟨(h.1 s hs).1, (h.1 s hs).2.2⟩
theorem rel_cost {σ τ : SS} {ch : Nat} (h : Rel σ τ ch) (x y z : Int32) : Both (f_c_X11_cost σ x y z) (f_m_X12_cost τ x y z) (ch + 1) := by
  obtain ⟨t, n, w, K, c, a1, a2, a3, a4, a5, a6, a7, a8, a9, a10, a11, a12, s6, s8, s10, s12, s16⟩ := h
  obtain ⟨r, σ', τ', e1, e2, b1, b2, b3, b4, b5⟩ := cost_both a1 a2 a4 a5 a3.c a3.m a6 x y z
  exact ⟨r, σ', τ', e1, e2, Rel.ctx (K := K) a1 a2 a3 a7 a8 a9 a10 a11 a12 s6 s8 s10 s12 s16 (b4.up (by decide) (by decide)) (b5.up (by decide) (by decide)) b1 ((b5.1 2 (by decide)).trans a5) b2 b3⟩
theorem rel_digits {σ τ : SS} {ch : Nat} (h : Rel σ τ ch) (x y : Int32) : Both (f_c_X11_digits σ x y) (f_m_X12_digits τ x y) (ch + 1) := by
  obtain ⟨t, n, w, K, c, a1, a2, a3, a4, a5, a6, a7, a8, a9, a10, a11, a12, s6, s8, s10, s12, s16⟩ := h
  obtain ⟨r, σ', τ', e1, e2, b1, b2, b3, b4, b5⟩ := digits_both a1 a2 a4 a5 a3.c a3.m a6 x y
  exact ⟨r, σ', τ', e1, e2, Rel.ctx (K := K) a1 a2 a3 a7 a8 a9 a10 a11 a12 s6 s8 s10 s12 s16 (b4.up (by decide) (by decide)) (b5.up (by decide) (by decide)) b1 ((b5.1 2 (by decide)).trans a5) b2 b3⟩
theorem rel_weight {σ τ : SS} {ch : Nat} (h : Rel σ τ ch) (x y : Int32) : Both (f_c_X11_weight σ x y) (f_m_X12_weight τ x y) (ch + 1) := by
  obtain ⟨t, n, w, K, c, a1, a2, a3, a4, a5, a6, a7, a8, a9, a10, a11, a12, s6, s8, s10, s12, s16⟩ := h
  obtain ⟨r, σ', τ', w', e1, e2, b1, f, f'⟩ := weight_both a3 x y
  exact ⟨r, σ', τ', e1, e2, t, n, w', K, c, a1.fr f (by decide) (by decide) (by decide), a2.fr f' (by decide) (by decide), b1, a4.fr f (by decide) (by decide), (f'.1 2 (by decide)).trans a5, a6.fr f (by decide), wd_fr a7 f (by decide) (by decide), a8.fr f (by decide) (by decide), gr_fr a9 f (by decide) (by decide), a10.fr f' (by decide) (by decide), by omega, (f.1 1 (by decide)).trans a12, by rw [f.1 6 (by decide)]; exact s6, by rw [f.1 8 (by decide)]; exact s8, by rw [f.1 10 (by decide)]; exact s10, by rw [f.1 12 (by decide)]; exact s12, by rw [f.1 16 (by decide)]; exact s16⟩
/-- words -/
theorem Rel.wrd {σ τ σ' τ' : SS} {ch : Nat} {t : Nat → Nat} {n K c : Nat} {w : Nat → Nat} (a1 : Tc σ t n) (a2 : Tm τ t n) (a3 : Wt σ τ w) (a4 : CtxI σ t n K) (a5 : τ.1 2 = nI K) (a6 : Lg σ) (a8 : PcI σ t n) (a9 : σ.1 16 = σ.1 1 → Gr σ t n) (a10 : Gm τ) (a11 : c ≤ ch) (a12 : σ.1 1 = nI c) (s6 : Sn (σ.1 6) c) (s8 : Sn (σ.1 8) c) (s10 : Sn (σ.1 10) c) (s12 : Sn (σ.1 12) c) (s16 : Sn (σ.1 16) c)
    (f : fr [7, 8] [10, 11, 12] σ σ') (f' : fr [0, 4, 5] [5, 6, 7] τ τ') (h4 : σ'.1 8 = σ'.1 1 → Wd σ' t n) (h7 : σ'.1 8 = σ.1 8 ∨ σ'.1 8 = σ.1 1) : Rel σ' τ' (ch + 1) :=
  ⟨t, n, w, K, c, a1.fr f (by decide) (by decide) (by decide), a2.fr f' (by decide) (by decide), a3.fr f f' (by decide) (by decide) (by decide), a4.fr f (by decide) (by decide), (f'.1 2 (by decide)).trans a5, a6.fr f (by decide), h4, a8.fr f (by decide) (by decide), gr_fr a9 f (by decide) (by decide), a10.fr f' (by decide) (by decide), by omega, (f.1 1 (by decide)).trans a12, by rw [f.1 6 (by decide)]; exact s6, s8.mv h7 a12, by rw [f.1 10 (by decide)]; exact s10, by rw [f.1 12 (by decide)]; exact s12, by rw [f.1 16 (by decide)]; exact s16⟩
theorem rel_width {σ τ : SS} {ch : Nat} (h : Rel σ τ ch) (x y : Int32) : Both (f_c_X11_width σ x y) (f_m_X12_width τ x y) (ch + 1) := by
  obtain ⟨t, n, w, K, c, a1, a2, a3, a4, a5, a6, a7, a8, a9, a10, a11, a12, s6, s8, s10, s12, s16⟩ := h
  obtain ⟨r, σ', τ', e1, e2, b1, b2, f, f'⟩ := width_both a1 a2 a7 x y
  exact ⟨r, σ', τ', e1, e2, Rel.wrd a1 a2 a3 a4 a5 a6 a8 a9 a10 a11 a12 s6 s8 s10 s12 s16 f f' b1 b2⟩
theorem rel_bits {σ τ : SS} {ch : Nat} (h : Rel σ τ ch) (x : Int32) : Both (f_c_X11_bits σ x) (f_m_X12_bits τ x) (ch + 1) := by
  obtain ⟨t, n, w, K, c, a1, a2, a3, a4, a5, a6, a7, a8, a9, a10, a11, a12, s6, s8, s10, s12, s16⟩ := h
  obtain ⟨r, σ', τ', e1, e2, b1, b2, f, f'⟩ := bits_both a1 a2 a7 x
  exact ⟨r, σ', τ', e1, e2, Rel.wrd a1 a2 a3 a4 a5 a6 a8 a9 a10 a11 a12 s6 s8 s10 s12 s16 f f' b1 b2⟩
/-- pieces -/
theorem Rel.pcs {σ τ σ' τ' : SS} {ch : Nat} {t : Nat → Nat} {n K c : Nat} {w : Nat → Nat} (a1 : Tc σ t n) (a2 : Tm τ t n) (a3 : Wt σ τ w) (a4 : CtxI σ t n K) (a5 : τ.1 2 = nI K) (a6 : Lg σ) (a7 : σ.1 8 = σ.1 1 → Wd σ t n) (a9 : σ.1 16 = σ.1 1 → Gr σ t n) (a10 : Gm τ) (a11 : c ≤ ch) (a12 : σ.1 1 = nI c) (s6 : Sn (σ.1 6) c) (s8 : Sn (σ.1 8) c) (s10 : Sn (σ.1 10) c) (s12 : Sn (σ.1 12) c) (s16 : Sn (σ.1 16) c)
    (f : fr [9, 10, 11, 12] [13, 14, 15, 16, 17, 18] σ σ') (f' : fr [0, 6] [8, 9, 10] τ τ') (h4 : PcI σ' t n) (h7 : σ'.1 10 = σ.1 10 ∨ σ'.1 10 = σ.1 1) (h8 : σ'.1 12 = σ.1 12 ∨ σ'.1 12 = σ.1 1) : Rel σ' τ' (ch + 1) :=
  ⟨t, n, w, K, c, a1.fr f (by decide) (by decide) (by decide), a2.fr f' (by decide) (by decide), a3.fr f f' (by decide) (by decide) (by decide), a4.fr f (by decide) (by decide), (f'.1 2 (by decide)).trans a5, a6.fr f (by decide), wd_fr a7 f (by decide) (by decide), h4, gr_fr a9 f (by decide) (by decide), a10.fr f' (by decide) (by decide), by omega, (f.1 1 (by decide)).trans a12, by rw [f.1 6 (by decide)]; exact s6, by rw [f.1 8 (by decide)]; exact s8, s10.mv h7 a12, s12.mv h8 a12, by rw [f.1 16 (by decide)]; exact s16⟩
theorem rel_pieces {σ τ : SS} {ch : Nat} (h : Rel σ τ ch) (x : Int32) : Both (f_c_X11_pieces σ x) (f_m_X12_pieces τ x) (ch + 1) := by
  obtain ⟨t, n, w, K, c, a1, a2, a3, a4, a5, a6, a7, a8, a9, a10, a11, a12, s6, s8, s10, s12, s16⟩ := h
  obtain ⟨r, σ', τ', e1, e2, b1, b2, b3, f, f'⟩ := pieces_both a1 a2 a8 x
  exact ⟨r, σ', τ', e1, e2, Rel.pcs a1 a2 a3 a4 a5 a6 a7 a9 a10 a11 a12 s6 s8 s10 s12 s16 f f' b1 b2 b3⟩
theorem rel_piece {σ τ : SS} {ch : Nat} (h : Rel σ τ ch) (x y z : Int32) : Both (f_c_X11_piece σ x y z) (f_m_X12_piece τ x y z) (ch + 1) := by
  obtain ⟨t, n, w, K, c, a1, a2, a3, a4, a5, a6, a7, a8, a9, a10, a11, a12, s6, s8, s10, s12, s16⟩ := h
  obtain ⟨r, σ', τ', e1, e2, b1, b2, b3, f, f'⟩ := piece_both a1 a2 a8 x y z
  exact ⟨r, σ', τ', e1, e2, Rel.pcs a1 a2 a3 a4 a5 a6 a7 a9 a10 a11 a12 s6 s8 s10 s12 s16 f f' b1 b2 b3⟩
/-- the grammar -/
theorem Rel.grm {σ τ σ' τ' : SS} {ch : Nat} {t : Nat → Nat} {n K c : Nat} {w : Nat → Nat} (a1 : Tc σ t n) (a2 : Tm τ t n) (a3 : Wt σ τ w) (a4 : CtxI σ t n K) (a5 : τ.1 2 = nI K) (a6 : Lg σ) (a7 : σ.1 8 = σ.1 1 → Wd σ t n) (a8 : PcI σ t n) (a11 : c ≤ ch) (a12 : σ.1 1 = nI c) (s6 : Sn (σ.1 6) c) (s8 : Sn (σ.1 8) c) (s10 : Sn (σ.1 10) c) (s12 : Sn (σ.1 12) c) (s16 : Sn (σ.1 16) c)
    (f : fr [13, 14, 15, 16] [19, 20, 21, 22, 23, 24, 25, 26, 27] σ σ') (f' : fr [0, 7, 8, 9] [11, 12, 13, 14] τ τ') (h4 : σ'.1 16 = σ'.1 1 → Gr σ' t n) (h5 : Gm τ') (h7 : σ'.1 16 = σ.1 16 ∨ σ'.1 16 = σ.1 1) : Rel σ' τ' (ch + 1) :=
  ⟨t, n, w, K, c, a1.fr f (by decide) (by decide) (by decide), a2.fr f' (by decide) (by decide), a3.fr f f' (by decide) (by decide) (by decide), a4.fr f (by decide) (by decide), (f'.1 2 (by decide)).trans a5, a6.fr f (by decide), wd_fr a7 f (by decide) (by decide), a8.fr f (by decide) (by decide), h4, h5, by omega, (f.1 1 (by decide)).trans a12, by rw [f.1 6 (by decide)]; exact s6, by rw [f.1 8 (by decide)]; exact s8, by rw [f.1 10 (by decide)]; exact s10, by rw [f.1 12 (by decide)]; exact s12, s16.mv h7 a12⟩
theorem rel_grammar {σ τ : SS} {ch : Nat} (h : Rel σ τ ch) (x : Int32) : Both (f_c_X11_grammar σ x) (f_m_X12_grammar τ x) (ch + 1) := by
  obtain ⟨t, n, w, K, c, a1, a2, a3, a4, a5, a6, a7, a8, a9, a10, a11, a12, s6, s8, s10, s12, s16⟩ := h
  obtain ⟨r, σ', τ', e1, e2, b1, b2, b3, f, f'⟩ := grammar_both a1 a2 a9 a10 x
  exact ⟨r, σ', τ', e1, e2, Rel.grm a1 a2 a3 a4 a5 a6 a7 a8 a11 a12 s6 s8 s10 s12 s16 f f' b1 b2 b3⟩
theorem rel_rule {σ τ : SS} {ch : Nat} (h : Rel σ τ ch) (x y : Int32) : Both (f_c_X11_rule σ x y) (f_m_X12_rule τ x y) (ch + 1) := by
  obtain ⟨t, n, w, K, c, a1, a2, a3, a4, a5, a6, a7, a8, a9, a10, a11, a12, s6, s8, s10, s12, s16⟩ := h
  obtain ⟨r, σ', τ', e1, e2, b1, b2, b3, f, f'⟩ := rule_both a1 a2 a9 a10 x y
  exact ⟨r, σ', τ', e1, e2, Rel.grm a1 a2 a3 a4 a5 a6 a7 a8 a11 a12 s6 s8 s10 s12 s16 f f' b1 b2 b3⟩
theorem rel_symbol {σ τ : SS} {ch : Nat} (h : Rel σ τ ch) (x : Int32) : ∃ r σ' τ', f_c_X3_follow σ = some ((), σ') ∧ f_m_X12_symbol τ x = some (r, τ') ∧ Rel σ' τ' (ch + 1) ∧ ((wi x 0 (σ'.1 14 - 1) = 0 ∧ τ'.1 0 = 1) ∨ (¬ wi x 0 (σ'.1 14 - 1) = 0 ∧ τ'.1 0 = 0 ∧ f_c_X11_symbol σ x = some (r, σ'))) := by
  obtain ⟨t, n, w, K, c, a1, a2, a3, a4, a5, a6, a7, a8, a9, a10, a11, a12, s6, s8, s10, s12, s16⟩ := h
  obtain ⟨r, σ', τ', e1, e2, b1, b2, b3, f, f', b4⟩ := symbol_both a1 a2 a9 a10 x
  exact ⟨r, σ', τ', e1, e2, Rel.grm a1 a2 a3 a4 a5 a6 a7 a8 a11 a12 s6 s8 s10 s12 s16 f f' b1 b2 b3, b4⟩
theorem rel_share {σ τ : SS} {ch : Nat} (h : Rel σ τ ch) (x : Int32) : ∃ b τ', f_m_X12_share τ x = some (b, τ') ∧ Rel σ τ' (ch + 1) ∧
    ((wi x 0 15 = 0 ∧ τ'.1 0 = 2) ∨ (¬ wi x 0 15 = 0 ∧ σ.1 2 = 0 ∧ τ'.1 0 = 1) ∨ (¬ wi x 0 15 = 0 ∧ ¬ σ.1 2 = 0 ∧ τ'.1 0 = 0 ∧ f_c_X11_share σ x = some (b, σ))) := by
  have h' := h
  obtain ⟨t, n, w, K, c, a1, a2, a3, -⟩ := h
  obtain ⟨b, τ', e1, f, hb⟩ := share_both a3 x
  exact ⟨b, τ', e1, (h'.ref f).up (by omega), hb⟩
/-- the beginning: all 0; the reference's made length is -1 -/
theorem Rel.start {σ τ : SS} (h0 : ∀ k, σ.1 k = 0) (h1 : ∀ a j, σ.2 a j = 0) (h2 : ∀ k, k < 9 → τ.1 k = 0) (h9 : τ.1 9 = -1) (h3 : ∀ a j, τ.2 a j = 0) : Rel σ τ 0 := by
  have z : ∀ k, σ.1 k = nI 0 := fun k => (h0 k).trans i_0
  have sn : ∀ k, Sn (σ.1 k) 0 := fun k => Or.inr ⟨0, Nat.le_refl 0, z k⟩
  have ws : ∀ k, wsum (fun _ => 0) k = 0 := fun k => by
    induction k with
    | zero => rfl
    | succ k ih => unfold wsum; rw [ih]
  have lw : L0w (fun _ => 0) 0 16 = 0 := by decide
  refine ⟨fun _ => 0, 0, fun _ => 0, 0, 0, ⟨z 0, by omega, fun i hi => absurd hi (Nat.not_lt_zero i), fun s hs => (h1 _ _).trans i_0⟩, ⟨(h2 1 (by decide)).trans i_0, by omega, fun i hi => absurd hi (Nat.not_lt_zero i)⟩, ⟨fun s hs => ⟨Nat.zero_le _, (h1 _ _).trans i_0, (h3 _ _).trans i_0⟩, by rw [ws]; exact z 2⟩, ⟨by omega, z 3, fun _ => ⟨z 4, z 5, fun c x hc => (by cases hc), fun e j hj => (by cases hj)⟩⟩, (h2 2 (by decide)).trans i_0, fun u n hu hn => Or.inl (h1 _ _), fun _ => ⟨fun _ => 0, Or.inr ⟨by rw [lw]; decide, by rw [lw]; exact fun s hs => rfl⟩, fun s hs => (h1 _ _).trans i_0⟩,
    ⟨fun _ => ⟨0, ⟨Nat.zero_le _, fun i hi => absurd hi (Nat.not_lt_zero i)⟩, z 9, fun i hi => absurd hi (Nat.not_lt_zero i)⟩, fun _ => ⟨0, ⟨Nat.zero_le _, fun i hi => absurd hi (Nat.not_lt_zero i)⟩, z 11, fun i hi => absurd hi (Nat.not_lt_zero i)⟩⟩, fun _ => ⟨0, ⟨fun k hk => absurd hk (Nat.not_lt_zero k), ?_⟩, fun i hi => absurd hi (Nat.not_lt_zero i), z 14, z 15, fun i hi => absurd hi (Nat.not_lt_zero i), fun j hj => absurd hj (Nat.not_lt_zero j)⟩, Or.inl h9, Nat.le_refl 0, z 1, sn 6, sn 8, sn 10, sn 12, sn 16⟩
  rintro ⟨f, s, hb⟩
  have h2c := hb.1
  have := cj_le (gr (fun _ => 0) 0 0) 0 f s (0 - 0) 0 rfl
  have e : gR (fun _ => 0) 0 0 = 0 := rfl
  rw [e] at h2c
  omega
