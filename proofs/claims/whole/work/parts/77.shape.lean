/-! ===== pure part: shape ===== -/
def q_fl (lw : Nat → Bool) (x : Int32) : Nat → Nat → Int32 → Option Nat
  | 0, _, _ => none
  | m + 1, k, c => if lw k then (if c = x then some k else q_fl lw x m (k + 1) (c + 1)) else q_fl lw x m (k + 1) c
theorem q_fl_is {lw : Nat → Bool} {x : Int32} {i : Nat} : ∀ (m k : Nat) (c : Int32), q_fl lw x m k c = some i → i < k + m ∧ lw i = true
  | 0, k, c, h => nomatch h
  | m + 1, k, c, h => by
    rw [q_fl] at h
    by_cases h1 : lw k = true
    · rw [if_pos h1] at h
      by_cases h2 : c = x
      · rw [if_pos h2] at h
        cases h
        exact ⟨by omega, h1⟩
      · rw [if_neg h2] at h
        have := q_fl_is m (k + 1) _ h
        exact ⟨by omega, this.2⟩
    · rw [if_neg h1] at h
      have := q_fl_is m (k + 1) _ h
      exact ⟨by omega, this.2⟩
theorem q_xlow7 {P : qP} {n tp : Nat} {g : zSG} {x1 : Int32} (h : q_lk P n tp g) : ∀ (m k N x : Nat) (c : Int32), k + m = n → m < N → q_seen (q_sh P n ((g 0 0).2 3)) k x → z_run zM_X4_lowestOfShape zc_X4_lowestOfShape zk_X4_lowestOfShape N 7 [(0, .inr (.inl (0, 0, 0))), (1, .inl x1), (2, .inl (nI x)), (3, .inl c), (4, .inl (nI k))] g (0, 0) = some (.inl (some (.inl (q_cI (q_fl (q_lw (q_sh P n ((g 0 0).2 3))) x1 m k c)))), g) := by
  have hn := h.1.1.1
  have h7 := h.1.2.1.1.1
  intro m
  induction m with
  | zero =>
    intro k N x c hk hN hx
    obtain ⟨N, rfl⟩ : ∃ N', N = N' + 1 := ⟨N - 1, by omega⟩
    rw [zu_X4_lowestOfShape_7, h7, if_pos (nI_le (by omega) (by omega)), q_fl]
    rfl
  | succ m ih =>
    intro k N x c hk hN hx
    obtain ⟨N, rfl⟩ : ∃ N', N = N' + 1 := ⟨N - 1, by omega⟩
    rw [zu_X4_lowestOfShape_7, h7, if_neg (nI_ge (by omega) (by omega)), q_xsh h (show k < n by omega), q_bI, nI_1, q_fl]
    cases hs : q_sh P n ((g 0 0).2 3) k with
    | none =>
      rw [if_pos (show q_cI none = -1 from rfl), q_lw_none hs, if_neg (by decide)]
      exact ih (k + 1) N x c (by omega) (by omega) (q_seen_none hx hs)
    | some s =>
      have h32 := q_sh_lt h (show k < n by omega) hs
      rw [if_neg (show ¬ q_cI (some s) = -1 from q_nI_m1 (by omega)), show q_cI (some s) = nI s from rfl, q_shl32 h32, fa_or]
      cases hb : x.testBit s with
      | false =>
        obtain ⟨s1, s2⟩ := q_seen_new hx h32 hs hb
        rw [if_pos ((q_bit32 hx.1).mpr hb), if_pos s2]
        by_cases e : c = x1
        · rw [if_pos e, if_pos e]
          rfl
        · rw [if_neg e, if_neg e]
          exact ih (k + 1) N _ _ (by omega) (by omega) s1
      | true =>
        obtain ⟨s1, s2⟩ := q_seen_old hx h32 hs hb
        rw [if_neg (fun hc => by rw [(q_bit32 hx.1).mp hc] at hb; cases hb), s2, if_neg (by decide)]
        exact ih (k + 1) N x c (by omega) (by omega) s1
theorem q_xof4 {P : qP} {n tp s : Nat} {g : zSG} (h : q_lk P n tp g) (hs : s < 32) : ∀ (m k N : Nat), k + m = n → m < N → z_run zM_X4_asksOfShape zc_X4_asksOfShape zk_X4_asksOfShape N 4 [(0, .inr (.inl (0, 0, 0))), (1, .inl (nI s)), (2, .inl (nI (fb_ct (fun j => decide (q_sh P n ((g 0 0).2 3) j = some s)) k))), (3, .inl (nI k))] g (0, 0) = some (.inl (some (.inl (nI (fb_ct (fun j => decide (q_sh P n ((g 0 0).2 3) j = some s)) n)))), g) := by
  have hn := h.1.1.1
  have h7 := h.1.2.1.1.1
  intro m
  induction m with
  | zero =>
    intro k N hk hN
    obtain ⟨N, rfl⟩ : ∃ N', N = N' + 1 := ⟨N - 1, by omega⟩
    have e : k = n := by omega
    subst e
    rw [zu_X4_asksOfShape_4, h7, if_pos (nI_le (Nat.le_refl _) (by omega))]
  | succ m ih =>
    intro k N hk hN
    obtain ⟨N, rfl⟩ : ∃ N', N = N' + 1 := ⟨N - 1, by omega⟩
    have ih1 := ih (k + 1) N (by omega) (by omega)
    rw [fb_ct_succ] at ih1
    rw [zu_X4_asksOfShape_4, h7, if_neg (nI_ge (by omega) (by omega)), q_xsh h (show k < n by omega), q_bI, nI_1]
    have e : q_cI (q_sh P n ((g 0 0).2 3) k) = nI s ↔ q_sh P n ((g 0 0).2 3) k = some s := q_cI_inj (o' := some s) (fun w hw => by have := q_sh_lt h (show k < n by omega) hw; omega) (fun w hw => by cases hw; omega)
    by_cases c : q_sh P n ((g 0 0).2 3) k = some s
    · rw [decide_eq_true c] at ih1
      rw [if_pos (e.mpr c), nI_1]
      exact ih1
    · rw [decide_eq_false c] at ih1
      rw [if_neg (fun hc => c (e.mp hc)), nI_1]
      exact ih1
section Ms
variable {P : qP} {n tp : Nat} {g : zSG}
theorem q_mshape30 (h : q_lkM P n tp g) (hlt : ∀ a, a < n → ∀ w, q_wA P n ((g 0 0).2 3) a = some w → w < 8) {x1 x2 : Int32} : ∀ (m k N : Nat) (c : Int32), k + m = n → ∃ N', N ≤ N' ∧ z_run zM_X5_shape zc_X5_shape zk_X5_shape (N + m + 1) 30 [(0, .inr (.inl (3, 0, 0))), (1, .inl x1), (2, .inl x2), (3, .inl c), (4, .inl (nI k))] g (0, 0) = match q_fl (q_lw (q_sh P n ((g 0 0).2 3))) x1 m k c with
      | none => some (.inl (some (.inl (-1))), g)
      | some i => z_run zM_X5_shape zc_X5_shape zk_X5_shape N' 62 [(0, .inr (.inl (3, 0, 0))), (2, .inl x2), (4, .inl (nI i)), (5, .inl (0 : Int32)), (6, .inl (0 : Int32))] g (0, 0) := by
  have hn := h.1.1.1
  have h16 := h.1.2.2.2.2.1.1
  intro m
  induction m with
  | zero =>
    intro k N c hk
    refine ⟨N, Nat.le_refl _, ?_⟩
    rw [zu_X5_shape_30, h16, if_pos (nI_le (by omega) (by omega)), q_fl]
  | succ m ih =>
    intro k N c hk
    rw [zu_X5_shape_30, h16, if_neg (nI_ge (by omega) (by omega)), q_mlow h hlt (show k < n by omega), q_bI, nI_1, q_fl]
    cases hl : q_lw (q_sh P n ((g 0 0).2 3)) k with
    | true =>
      rw [if_neg (show ¬ (if true = true then (1 : Int32) else 0) = 0 by decide), if_pos rfl]
      by_cases e : c = x1
      · rw [if_pos e, if_pos e]
        exact ⟨_, by omega, rfl⟩
      · rw [if_neg e, if_neg e]
        exact ih (k + 1) N (c + 1) (by omega)
    | false =>
      rw [if_pos (show (if false = true then (1 : Int32) else 0) = 0 by decide), if_neg (by decide)]
      exact ih (k + 1) N c (by omega)
theorem q_mshape62 (h : q_lkM P n tp g) (hlt : ∀ a, a < n → ∀ w, q_wA P n ((g 0 0).2 3) a = some w → w < 8) {i s w : Nat} (hi : i < n) (hw4 : w < 4) (hs : q_sh P n ((g 0 0).2 3) i = some s) : ∀ (m k N : Nat), k + m = n → m < N → z_run zM_X5_shape zc_X5_shape zk_X5_shape N 62 [(0, .inr (.inl (3, 0, 0))), (2, .inl (nI w)), (4, .inl (nI i)), (5, .inl (nI (fb_ct (fun j => decide (q_sh P n ((g 0 0).2 3) j = some s)) k))), (6, .inl (nI k))] g (0, 0) = some (.inl (some (.inl (if w = 0 then nI (q_kd P i) else if w = 1 then q_cI (q_wA P n ((g 0 0).2 3) i) else if w = 2 then nI (fb_ct (fun j => decide (q_sh P n ((g 0 0).2 3) j = some s)) n) else nI i))), g) := by
  have hn := h.1.1.1
  have h16 := h.1.2.2.2.2.1.1
  intro m
  induction m with
  | zero =>
    intro k N hk hN
    obtain ⟨N, rfl⟩ : ∃ N', N = N' + 1 := ⟨N - 1, by omega⟩
    have e : k = n := by omega
    subst e
    rw [zu_X5_shape_62, h16, if_pos (nI_le (Nat.le_refl _) (by omega)), nI_clamp (show i < 2 ^ 31 by omega), h.2 i hi, (h.1.2.2.2.2.1.2.1 i hi).1]
    simp only [if_pos (q_inb' (show i < 30 by omega) (by decide))]
    rcases (show w = 0 ∨ w = 1 ∨ w = 2 ∨ w = 3 by omega) with rfl | rfl | rfl | rfl
    · rfl
    · rfl
    · rfl
    · rfl
  | succ m ih =>
    intro k N hk hN
    obtain ⟨N, rfl⟩ : ∃ N', N = N' + 1 := ⟨N - 1, by omega⟩
    have ih1 := ih (k + 1) N (by omega) (by omega)
    rw [fb_ct_succ] at ih1
    rw [zu_X5_shape_62, h16, if_neg (nI_ge (by omega) (by omega)), q_mlike h hlt hi (show k < n by omega), q_bI, nI_1, hs]
    by_cases c : q_sh P n ((g 0 0).2 3) k = some s
    · rw [decide_eq_true c] at ih1
      rw [if_pos (show some s ≠ none ∧ some s = q_sh P n ((g 0 0).2 3) k from ⟨(fun hc => nomatch hc), c.symm⟩), if_neg (by decide), nI_1]
      exact ih1
    · rw [decide_eq_false c] at ih1
      rw [if_neg (show ¬ (some s ≠ none ∧ some s = q_sh P n ((g 0 0).2 3) k) from fun hc => c hc.2.symm), if_pos rfl, Int32.add_zero]
      exact ih1
end Ms
theorem q_s_shape (x1 x2 : Int32) : q_sim q_eI zF_X4_shape zF_X5_shape [.inl x1, .inl x2] := by
  intro g hg
  have hg' := hg
  obtain ⟨P, n, tp, h⟩ := hg
  have hn := h.1.1
  rcases q_ix x2 (n := 4) (by decide) with ⟨w, hw, rfl⟩ | hb
  · obtain ⟨g1, e1, hI1, hf, -⟩ := q_brg h
    obtain ⟨y', e2, k2, t0⟩ := q_mfw (q_INV_t (v := 0) hI1) (q_t0 _ _)
    have hlt : ∀ a, a < n → ∀ w, q_wA P n ((g1 0 0).2 3) a = some w → w < 8 := fun a ha w hw => q_wA_lt hI1 hf ha hw
    have ex := q_xlow7 (x1 := x1) ⟨hI1, hf⟩ n 0 99999 0 0 (by omega) (by omega) (q_seen_0 _)
    obtain ⟨N', hN', em⟩ := q_mshape30 (x1 := x1) (x2 := nI w) k2 hlt n 0 (99998 - n) 0 (by omega)
    rw [show 99998 - n + n + 1 = 99999 by omega] at em
    have hX := (ze_X4_shape x1 (nI w) g).trans (zu_X4_shape_0 99999 x1 (nI w) g)
    rw [if_neg (nI_pos (by omega)), if_pos (show nI w ≤ (3 : Int32) from nI_le (b := 3) (by omega) (by decide)), e1, q_bV, (ze_X4_lowestOfShape x1 g1).trans (zu_X4_lowestOfShape_0 99999 x1 g1), show z_run zM_X4_lowestOfShape zc_X4_lowestOfShape zk_X4_lowestOfShape 99999 7 [(0, .inr (.inl (0, 0, 0))), (1, .inl x1), (2, .inl (0 : Int32)), (3, .inl (0 : Int32)), (4, .inl (0 : Int32))] g1 (0, 0) = _ from ex, q_bI] at hX
    have hM := (ze_X5_shape x1 (nI w) g1).trans (zu_X5_shape_0 99999 x1 (nI w) g1)
    rw [q_wn_ok (hi := (3 : Int32)) (m := 3) rfl (by omega) (by decide), q_bI, q_may1 (q_t0 _ _), q_bI, if_neg (by decide), e2, q_bV, show z_run zM_X5_shape zc_X5_shape zk_X5_shape 99999 30 [(0, .inr (.inl (3, 0, 0))), (1, .inl x1), (2, .inl (nI w)), (3, .inl (0 : Int32)), (4, .inl (0 : Int32))] (q_O (z_gI g1 3 0 0 0) 3 0 y') (0, 0) = _ from em] at hM
    have hnz : (q_O (z_gI g1 3 0 0 0) 3 0 y' 0 0).2 3 = (g1 0 0).2 3 := rfl
    rw [hnz] at hM
    cases hfl : q_fl (q_lw (q_sh P n ((g1 0 0).2 3))) x1 n 0 0 with
    | none =>
      rw [hfl] at hX hM
      rw [if_pos (show q_cI none = -1 from rfl)] at hX
      refine ⟨_, _, _, _, hX, hM, ⟨?_, rfl⟩, P, n, tp, k2.1⟩
      rw [q_O_get]
      exact t0
    | some i =>
      obtain ⟨hi, hl⟩ := q_fl_is n 0 0 hfl
      rw [Nat.zero_add] at hi
      cases hs : q_sh P n ((g1 0 0).2 3) i with
      | none =>
        rw [q_lw_none hs] at hl
        cases hl
      | some s =>
        have h32 := q_sh_lt ⟨hI1, hf⟩ hi hs
        rw [hfl] at hX hM
        have em2 := q_mshape62 (i := i) (s := s) (w := w) k2 hlt hi hw hs n 0 N' (by omega) (by omega)
        have hM2 := hM.trans em2
        rw [hnz] at hM2
        refine ⟨.inl (some (.inl (if w = 0 then nI (q_kd P i) else if w = 1 then q_cI (q_wA P n ((g1 0 0).2 3) i) else if w = 2 then nI (fb_ct (fun j => decide (q_sh P n ((g1 0 0).2 3) j = some s)) n) else nI i))), g1, _, _, ?_, hM2, ⟨?_, rfl⟩, P, n, tp, k2.1⟩
        · refine hX.trans ?_
          rw [if_neg (show ¬ q_cI (some i) = -1 from q_nI_m1 (by omega)), show q_cI (some i) = nI i from rfl, nI_toInt (by omega), if_pos (q_inb' (show i < 30 by omega) (by decide)), nI_clamp (by omega), (hI1.2.1.1.2.1 i hi).1, q_xwA hI1 hf hi, q_bI, q_xsh ⟨hI1, hf⟩ hi, q_bI, hs, show q_cI (some s) = nI s from rfl, (ze_X4_asksOfShape (nI s) g1).trans (zu_X4_asksOfShape_0 99999 (nI s) g1), show z_run zM_X4_asksOfShape zc_X4_asksOfShape zk_X4_asksOfShape 99999 4 [(0, .inr (.inl (0, 0, 0))), (1, .inl (nI s)), (2, .inl (0 : Int32)), (3, .inl (0 : Int32))] g1 (0, 0) = _ from q_xof4 ⟨hI1, hf⟩ h32 n 0 99999 (by omega) (by omega), q_bI]
          rcases (show w = 0 ∨ w = 1 ∨ w = 2 ∨ w = 3 by omega) with rfl | rfl | rfl | rfl
          · rfl
          · rfl
          · rfl
          · rfl
        · rw [q_O_get]
          exact t0
  · refine q_sim_bad (b := 0) (e := 0) (c := 1) hg' ?_ ?_ (by decide) rfl
    · rw [(ze_X4_shape x1 x2 g).trans (zu_X4_shape_0 99999 x1 x2 g)]
      by_cases h0 : x2 < 0
      · rw [if_pos h0]
      · rw [if_neg h0, if_neg]
        intro hc
        rcases hb with h1 | h1
        · exact h0 h1
        · rw [fa_le] at hc h1
          rw [nI_toInt (by decide)] at h1
          have h2 : (3 : Int32).toInt = 3 := by decide
          omega
    · rw [(ze_X5_shape x1 x2 g).trans (zu_X5_shape_0 99999 x1 x2 g), q_wn_bad (hi := (3 : Int32)) (m := 3) rfl hb (by decide), q_bI, q_may0 (q_t0 _ _) (by decide), q_bI, if_pos rfl, q_tt]
