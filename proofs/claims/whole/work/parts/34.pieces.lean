/-! pieces, piece -/
def PcI (σ : SS) (t : Nat → Nat) (n : Nat) : Prop := (σ.1 10 = σ.1 1 → Fa σ t n) ∧ (σ.1 12 = σ.1 1 → Ph σ t n)
/-- what both sides hold behind a cut of a kind -/
theorem cut_both {σ τ : SS} {t : Nat → Nat} {n kind : Nat} (h : Tc σ t n) (hm : Tm τ t n) (hs : PcI σ t n) (hk : kind ≤ 1) :
    ∃ σ' τ' m, m ≤ 400 ∧ f_m_X12_findPieces τ (nI kind) = some ((), τ') ∧ fr [6] [8, 9, 10] τ τ' ∧ τ'.1 6 = nI m ∧ PcI σ' t n ∧ fr [9, 10, 11, 12] [13, 14, 15, 16, 17, 18] σ σ' ∧ (σ'.1 10 = σ.1 10 ∨ σ'.1 10 = σ.1 1) ∧ (σ'.1 12 = σ.1 12 ∨ σ'.1 12 = σ.1 1) ∧
      ((kind = 0 ∧ f_c_X11_cutPieces σ (nI kind) = some (20, σ') ∧ σ'.1 9 = nI m ∧ ∀ i, i < m → σ'.2 13 i = τ'.2 8 i ∧ σ'.2 14 i = τ'.2 9 i ∧ σ'.2 15 i = τ'.2 10 i) ∨
       (kind = 1 ∧ f_c_X11_cutPieces σ (nI kind) = some (24, σ') ∧ σ'.1 11 = nI m ∧ ∀ i, i < m → σ'.2 16 i = τ'.2 8 i ∧ σ'.2 17 i = τ'.2 9 i ∧ σ'.2 18 i = τ'.2 10 i)) := by
  have hn := h.2.1
  unfold f_c_X11_cutPieces f_m_X12_findPieces
  rcases (show kind = 0 ∨ kind = 1 by omega) with rfl | rfl
  · rw [if_pos (by decide), if_pos (by decide)]
    obtain ⟨σ1, e1, f1, w1, s1⟩ := follow_f h hs.1
    obtain ⟨τ1, m, e2, f2, k2, n2, c2⟩ := findFactors_m hm
    rw [e1, bd_s, e2, bd_s]
    obtain ⟨m', k3, n3, c3⟩ := w1
    have em := FaN_eq k3 k2
    subst em
    have hm4 : m' ≤ 400 := by
      rcases Nat.lt_or_ge 400 m' with z | z
      · have a := k2.2 400 z
        have b := Pf_ge t n 400
        omega
      · exact z
    refine ⟨σ1, τ1, m', hm4, rfl, f2, n2, ⟨fun _ => ⟨m', k3, n3, c3⟩, fun z => ?_⟩, f1.up (by decide) (by decide), Or.inr s1, Or.inl (f1.1 12 (by decide)), Or.inl ⟨rfl, rfl, n3, fun i hi => ?_⟩⟩
    · rw [f1.1 12 (by decide), f1.1 1 (by decide)] at z
      exact (hs.2 z).fr f1 (by decide) (by decide)
    · have a := c3 i hi
      have b := c2 i hi
      rw [a.1, a.2.1, a.2.2, b.1, b.2.1, b.2.2]
      exact ⟨rfl, rfl, rfl⟩
  · rw [if_neg (by decide), if_neg (by decide)]
    obtain ⟨σ1, e1, f1, w1, s1⟩ := follow_p h hs.2
    obtain ⟨τ1, m, e2, f2, k2, n2, c2⟩ := findPhrases_m hm
    rw [e1, bd_s, e2, bd_s]
    obtain ⟨m', k3, n3, c3⟩ := w1
    have em := PhN_eq k3 k2
    subst em
    have hm4 : m' ≤ 400 := by
      rcases Nat.lt_or_ge 400 m' with z | z
      · have a := k2.2 400 z
        have b := pp_ge t n 400
        omega
      · exact z
    refine ⟨σ1, τ1, m', hm4, rfl, f2, n2, ⟨fun z => ?_, fun _ => ⟨m', k3, n3, c3⟩⟩, f1.up (by decide) (by decide), Or.inl (f1.1 10 (by decide)), Or.inr s1, Or.inr ⟨rfl, rfl, n3, fun i hi => ?_⟩⟩
    · rw [f1.1 10 (by decide), f1.1 1 (by decide)] at z
      exact (hs.1 z).fr f1 (by decide) (by decide)
    · have a := c3 i hi
      have b := c2 i hi
      rw [a.1, a.2.1, a.2.2, b.1, b.2.1, b.2.2]
      exact ⟨rfl, rfl, rfl⟩
theorem pieces_both {σ τ : SS} {t : Nat → Nat} {n : Nat} (h : Tc σ t n) (hm : Tm τ t n) (hs : PcI σ t n) (x : Int32) :
    ∃ r σ' τ', f_c_X11_pieces σ x = some (r, σ') ∧ f_m_X12_pieces τ x = some (r, τ') ∧ PcI σ' t n ∧ (σ'.1 10 = σ.1 10 ∨ σ'.1 10 = σ.1 1) ∧ (σ'.1 12 = σ.1 12 ∨ σ'.1 12 = σ.1 1) ∧ fr [9, 10, 11, 12] [13, 14, 15, 16, 17, 18] σ σ' ∧ fr [0, 6] [8, 9, 10] τ τ' := by
  have f1 : fr [0, 6] [8, 9, 10] τ (putI τ 0 0) := (fr.rf τ).pI (by decide)
  have f1' : fr [0] [] τ (putI τ 0 0) := (fr.rf τ).pI (by decide)
  unfold f_c_X11_pieces f_m_X12_pieces
  rw [wi_c, bd_s, isKind_m, bd_s]
  by_cases hx : wi x 0 1 = 0
  · rw [if_pos hx, if_pos hx]; exact ⟨_, σ, _, rfl, rfl, hs, Or.inl rfl, Or.inl rfl, fr.rf σ, f1⟩
  · rw [if_neg hx, if_neg hx]
    obtain ⟨kind, hk, rfl⟩ := wi_nI (b := 1) (by decide) hx
    obtain ⟨σ1, τ1, m, hm4, e2, f2, n2, p1, g1, s1, s2, hc⟩ := cut_both h (hm.fr f1' (by decide) (by decide)) hs hk
    have f3 := f1.tr (f2.up (I' := [0, 6]) (A' := [8, 9, 10]) (by decide) (by decide))
    rw [e2, bd_s, n2]
    rcases hc with ⟨-, e1, n1, -⟩ | ⟨-, e1, n1, -⟩
    · rw [e1, bd_s, if_pos rfl, n1]
      exact ⟨_, σ1, τ1, rfl, rfl, p1, s1, s2, g1, f3⟩
    · rw [e1, bd_s, if_neg (by decide), if_pos rfl, n1]
      exact ⟨_, σ1, τ1, rfl, rfl, p1, s1, s2, g1, f3⟩
theorem piece_both {σ τ : SS} {t : Nat → Nat} {n : Nat} (h : Tc σ t n) (hm : Tm τ t n) (hs : PcI σ t n) (x y z : Int32) :
    ∃ r σ' τ', f_c_X11_piece σ x y z = some (r, σ') ∧ f_m_X12_piece τ x y z = some (r, τ') ∧ PcI σ' t n ∧ (σ'.1 10 = σ.1 10 ∨ σ'.1 10 = σ.1 1) ∧ (σ'.1 12 = σ.1 12 ∨ σ'.1 12 = σ.1 1) ∧ fr [9, 10, 11, 12] [13, 14, 15, 16, 17, 18] σ σ' ∧ fr [0, 6] [8, 9, 10] τ τ' := by
  have f1 : fr [0, 6] [8, 9, 10] τ (putI τ 0 0) := (fr.rf τ).pI (by decide)
  have f1' : fr [0] [] τ (putI τ 0 0) := (fr.rf τ).pI (by decide)
  unfold f_c_X11_piece f_m_X12_piece
  rw [wi_c, bd_s, isKind_m, bd_s]
  by_cases hx : wi x 0 1 = 0
  · rw [if_pos hx, if_pos hx]; exact ⟨_, σ, _, rfl, rfl, hs, Or.inl rfl, Or.inl rfl, fr.rf σ, f1⟩
  · rw [if_neg hx, if_neg hx, wi_c, bd_s, wi_m' _ z 0 2 (by decide) (by decide), bd_s]
    by_cases hz : wi z 0 2 = 0
    · rw [if_pos hz, if_pos hz]; exact ⟨_, σ, _, rfl, rfl, hs, Or.inl rfl, Or.inl rfl, fr.rf σ, f1⟩
    · rw [if_neg hz, if_neg hz]
      obtain ⟨kind, hk, rfl⟩ := wi_nI (b := 1) (by decide) hx
      obtain ⟨σ1, τ1, m, hm4, e2, f2, n2, p1, g1, s1, s2, hc⟩ := cut_both h (hm.fr f1' (by decide) (by decide)) hs hk
      have f3 := f1.tr (f2.up (I' := [0, 6]) (A' := [8, 9, 10]) (by decide) (by decide))
      rw [e2, bd_s, wi_m' _ y 0 (τ1.1 6 - 1) (by decide) rfl, bd_s, n2]
      rcases hc with ⟨-, e1, n1, v⟩ | ⟨-, e1, n1, v⟩
      · rw [e1, bd_s, if_pos rfl, wi_c, bd_s, n1]
        by_cases hy : wi y 0 (nI m - 1) = 0
        · rw [if_pos hy, if_pos hy]; exact ⟨_, σ1, τ1, rfl, rfl, p1, s1, s2, g1, f3⟩
        · rw [if_neg hy, if_neg hy]
          obtain ⟨i, hi, rfl⟩ := wi_lt (by omega) hy
          obtain ⟨v1, v2, v3⟩ := v i hi
          rw [gd_nI (show i < 400 by omega) (by decide), gd_nI (show i < 400 by omega) (by decide), gd_nI (show i < 400 by omega) (by decide), gd_nI (show i < 400 by omega) (by decide), gd_nI (show i < 400 by omega) (by decide), gd_nI (show i < 400 by omega) (by decide), nI_clamp (by omega), v1, v2, v3]
          by_cases z0 : z = 0
          · rw [if_pos z0, if_pos z0]; exact ⟨_, σ1, τ1, rfl, rfl, p1, s1, s2, g1, f3⟩
          · rw [if_neg z0, if_neg z0]
            by_cases z1 : z = 1
            · rw [if_pos z1, if_pos z1]; exact ⟨_, σ1, τ1, rfl, rfl, p1, s1, s2, g1, f3⟩
            · rw [if_neg z1, if_neg z1]; exact ⟨_, σ1, τ1, rfl, rfl, p1, s1, s2, g1, f3⟩
      · rw [e1, bd_s, if_neg (by decide), if_pos rfl, wi_c, bd_s, n1]
        by_cases hy : wi y 0 (nI m - 1) = 0
        · rw [if_pos hy, if_pos hy]; exact ⟨_, σ1, τ1, rfl, rfl, p1, s1, s2, g1, f3⟩
        · rw [if_neg hy, if_neg hy]
          obtain ⟨i, hi, rfl⟩ := wi_lt (by omega) hy
          obtain ⟨v1, v2, v3⟩ := v i hi
          rw [gd_nI (show i < 400 by omega) (by decide), gd_nI (show i < 400 by omega) (by decide), gd_nI (show i < 400 by omega) (by decide), gd_nI (show i < 400 by omega) (by decide), gd_nI (show i < 400 by omega) (by decide), gd_nI (show i < 400 by omega) (by decide), nI_clamp (by omega), v1, v2, v3]
          by_cases z0 : z = 0
          · rw [if_pos z0, if_pos z0]; exact ⟨_, σ1, τ1, rfl, rfl, p1, s1, s2, g1, f3⟩
          · rw [if_neg z0, if_neg z0]
            by_cases z1 : z = 1
            · rw [if_pos z1, if_pos z1]; exact ⟨_, σ1, τ1, rfl, rfl, p1, s1, s2, g1, f3⟩
            · rw [if_neg z1, if_neg z1]; exact ⟨_, σ1, τ1, rfl, rfl, p1, s1, s2, g1, f3⟩
