/-! ===== pure part: touch, free, lag ===== -/
def q_th (P : qP) (n a b : Nat) : Bool := match (q_RA P n 0 0).2 a, (q_RA P n 0 0).2 b with
  | some E, some E' => decide (a ≠ b) && (decide (q_by P a = some b) || decide (q_by P b = some a) || decide (¬ (E.1 3 &&& (E'.1 2 ||| E'.1 3)) = 0) || decide (¬ (E'.1 3 &&& (E.1 2 ||| E.1 3)) = 0))
  | _, _ => false
theorem q_cIe {o : Option Nat} {b : Nat} (ho : ∀ c, o = some c → c < 2 ^ 31) (hb : b < 2 ^ 31) : q_cI o = nI b ↔ o = some b := q_cI_inj (o' := some b) ho (fun w hw => by cases hw; exact hb)
theorem q_xth {P : qP} {n tp a b : Nat} {g : zSG} (h : q_INV P n tp g) (hf : q_fx P n g) (ha : a < n) (hb : b < n) : zF_X4_areTouching [.inr (.inl (0, 0, 0)), .inl (nI a), .inl (nI b)] g = some (.inl (some (.inl (if q_th P n a b then 1 else 0))), g) := by
  have hn := h.1.1
  obtain ⟨E, hE⟩ := q_RA_some P (n := n) (v := 0) 0 ha
  obtain ⟨E', hE'⟩ := q_RA_some P (n := n) (v := 0) 0 hb
  have r1 := hf.1.2.2 a (by omega)
  have r2 := hf.1.2.2 b (by omega)
  rw [hE] at r1
  rw [hE'] at r2
  obtain ⟨-, -, -, -, -, -, p3, p4, -⟩ := r1
  obtain ⟨-, -, -, -, -, -, s3, s4, -⟩ := r2
  have ia : z_inb (nI a) 30 := q_inb' (show a < 30 by omega) (by decide)
  have ib : z_inb (nI b) 30 := q_inb' (show b < 30 by omega) (by decide)
  have i0 : z_inb (0 : Int32) 2 := q_inb' (k := 0) (by decide) (by decide)
  have ca := (h.2.1.1.2.1 a ha).2.2.2.2.1
  have cb := (h.2.1.1.2.1 b hb).2.2.2.2.1
  have ea := q_cIe (o := q_by P a) (b := b) (fun c hc => by have := (h.1.2.1 a ha).2.2.2 c hc; omega) (by omega)
  have eb := q_cIe (o := q_by P b) (b := a) (fun c hc => by have := (h.1.2.1 b hb).2.2.2 c hc; omega) (by omega)
  rw [(ze_X4_areTouching (nI a) (nI b) g).trans (zu_X4_areTouching_0 99999 (nI a) (nI b) g)]
  unfold q_th
  rw [hE, hE']
  simp only [if_pos ia, if_pos ib, if_pos i0, show (0 : Int32).toNatClampNeg = 0 from rfl, if_pos (show 0 < 4 by decide), nI_clamp (show a < 2 ^ 31 by omega), nI_clamp (show b < 2 ^ 31 by omega), ca, cb, p3, p4, s3, s4, q_00, q_11, nI_eq (show a < 2 ^ 31 by omega) (show b < 2 ^ 31 by omega), ea, eb]
  by_cases c0 : a = b
  · simp [c0]
  · by_cases c1 : q_by P a = some b
    · simp [c0, c1]
    · by_cases c2 : q_by P b = some a
      · simp [c0, c1, c2]
      · by_cases c3 : (E.1 3 &&& (E'.1 2 ||| E'.1 3)) = 0
        · by_cases c4 : (E'.1 3 &&& (E.1 2 ||| E.1 3)) = 0
          · simp [c0, c1, c2, c3, c4]
          · simp [c0, c1, c2, c3, c4]
        · simp [c0, c1, c2, c3]
theorem q_mth {P : qP} {n tp a b : Nat} {g : zSG} (h : q_INV P n tp g) (hr : q_rm n 0 (q_RA P n 0 0) (g 3 0)) (ha : a < n) (hb : b < n) : zF_X5_areTouching [.inr (.inl (3, 0, 0)), .inl (nI a), .inl (nI b)] g = some (.inl (some (.inl (if q_th P n a b then 1 else 0))), g) := by
  have hn := h.1.1
  obtain ⟨E, hE⟩ := q_RA_some P (n := n) (v := 0) 0 ha
  obtain ⟨E', hE'⟩ := q_RA_some P (n := n) (v := 0) 0 hb
  have r1 := hr.2.2 a ha
  have r2 := hr.2.2 b hb
  rw [hE] at r1
  rw [hE'] at r2
  obtain ⟨-, -, -, -, -, -, p3, p4, -⟩ := r1
  obtain ⟨-, -, -, -, -, -, s3, s4, -⟩ := r2
  have ia : z_inb (nI a) 30 := q_inb' (show a < 30 by omega) (by decide)
  have ib : z_inb (nI b) 30 := q_inb' (show b < 30 by omega) (by decide)
  have ca := (h.2.2.2.2.1.2.1 a ha).2.2.2.2.1
  have cb := (h.2.2.2.2.1.2.1 b hb).2.2.2.2.1
  have ea := q_cIe (o := q_by P a) (b := b) (fun c hc => by have := (h.1.2.1 a ha).2.2.2 c hc; omega) (by omega)
  have eb := q_cIe (o := q_by P b) (b := a) (fun c hc => by have := (h.1.2.1 b hb).2.2.2 c hc; omega) (by omega)
  rw [(ze_X5_areTouching (nI a) (nI b) g).trans (zu_X5_areTouching_0 99999 (nI a) (nI b) g)]
  unfold q_th
  rw [hE, hE']
  simp only [if_pos ia, if_pos ib, if_neg (show ¬ (1 : Int32) = 0 by decide), if_true, nI_clamp (show a < 2 ^ 31 by omega), nI_clamp (show b < 2 ^ 31 by omega), ca, cb, p3, p4, s3, s4, q_00, q_11, nI_eq (show a < 2 ^ 31 by omega) (show b < 2 ^ 31 by omega), ea, eb]
  by_cases c0 : a = b
  · simp [c0]
  · by_cases c3 : (E.1 3 &&& (E'.1 2 ||| E'.1 3)) = 0
    · by_cases c4 : (E'.1 3 &&& (E.1 2 ||| E.1 3)) = 0
      · by_cases c1 : q_by P a = some b
        · simp [c0, c1, c3, c4]
        · by_cases c2 : q_by P b = some a
          · simp [c0, c1, c2, c3, c4]
          · simp [c0, c1, c2, c3, c4]
      · simp [c0, c3, c4]
    · simp [c0, c3]
theorem q_if01 (b : Bool) : ((if b then (1 : Int32) else 0) = 0 ∨ (if b then (1 : Int32) else 0) = 1) := by
  cases b
  · exact Or.inl rfl
  · exact Or.inr rfl
theorem q_s_touch (x1 x2 : Int32) : q_sim q_eN zF_X4_touch zF_X5_touch [.inl x1, .inl x2] := by
  intro g hg
  have hg' := hg
  obtain ⟨P, n, tp, h⟩ := hg
  have hn := h.1.1
  have hX7 := h.2.1.1.1
  have hM16 := h.2.2.2.2.1.1
  rcases q_ix x1 (n := n) (by omega) with ⟨a, ha, rfl⟩ | hb1
  · rcases q_ix x2 (n := n) (by omega) with ⟨b, hb, rfl⟩ | hb2
    · obtain ⟨g1, e1, hI1, hf, -⟩ := q_brg h
      obtain ⟨y', e2, hr, ht, hI2, -⟩ := q_rall (v := 0) (id := 0) (by decide) (q_INV_t (v := 0) hI1) (q_t0 _ _)
      have e2' : zF_X5_runAll [.inr (.inl (3, 0, 0)), .inl (0 : Int32), .inl (0 : Int32)] (z_gI g1 3 0 0 0) = some (.inl none, q_O (z_gI g1 3 0 0 0) 3 0 y') := e2
      refine ⟨.inl (some (.inl (if q_th P n a b then 1 else 0))), g1, _, _, ?_, ?_, ⟨?_, rfl⟩, P, n, tp, hI2⟩
      · rw [(ze_X4_touch (nI a) (nI b) g).trans (zu_X4_touch_0 99999 (nI a) (nI b) g), q_ckA_ok hX7 hn ha, q_bV, q_ckA_ok hX7 hn hb, q_bV, e1, q_bV, q_xth hI1 hf ha hb, q_bI, if_pos (q_if01 _)]
      · rw [(ze_X5_touch (nI a) (nI b) g1).trans (zu_X5_touch_0 99999 (nI a) (nI b) g1), q_isA_ok (q_t0 _ _) ((q_t16 _ _).trans hI1.2.2.2.2.1.1) hn ha, q_bI, if_neg (by decide), q_isA_ok (q_t0 _ _) ((q_t16 _ _).trans hI1.2.2.2.2.1.1) hn hb, q_bI, if_neg (by decide), e2', q_bV, q_mth hI2 (by rw [q_O_get]; exact hr) ha hb, q_bI, if_pos (q_if01 _)]
      · rw [q_O_get]
        exact ht
    · refine q_sim_bad (b := 0) (e := 2) (c := 1) hg' ?_ ?_ (by decide) rfl
      · rw [(ze_X4_touch (nI a) x2 g).trans (zu_X4_touch_0 99999 (nI a) x2 g), q_ckA_ok hX7 hn ha, q_bV, q_ckA_bad hX7 hb2, q_bVx]
      · rw [(ze_X5_touch (nI a) x2 g).trans (zu_X5_touch_0 99999 (nI a) x2 g), q_isA_ok (q_t0 _ _) ((q_t16 _ _).trans hM16) hn ha, q_bI, if_neg (by decide), q_isA_bad (q_t0 _ _) ((q_t16 _ _).trans hM16) hn hb2, q_bI, if_pos rfl, q_00, q_tt]
  · refine q_sim_bad (b := 0) (e := 2) (c := 1) hg' ?_ ?_ (by decide) rfl
    · rw [(ze_X4_touch x1 x2 g).trans (zu_X4_touch_0 99999 x1 x2 g), q_ckA_bad hX7 hb1, q_bVx]
    · rw [(ze_X5_touch x1 x2 g).trans (zu_X5_touch_0 99999 x1 x2 g), q_isA_bad (q_t0 _ _) ((q_t16 _ _).trans hM16) hn hb1, q_bI, if_pos rfl, q_00, q_tt]
/-! free -/
def q_fr (P : qP) (n a j : Nat) : Bool := decide (j ≠ a) && !q_th P n a j
theorem q_xfree13 {P : qP} {n tp a : Nat} {g : zSG} (h : q_INV P n tp g) (hf : q_fx P n g) (ha : a < n) : ∀ (m k N : Nat), k + m = n → m < N → z_run zM_X4_free zc_X4_free zk_X4_free N 13 [(0, .inr (.inl (0, 0, 0))), (1, .inl (nI a)), (2, .inl (nI (fb_ct (q_fr P n a) k))), (3, .inl (nI k))] g (3, 18) = some (.inl (some (.inl (nI (fb_ct (q_fr P n a) n)))), g) := by
  have hn := h.1.1
  have h7 := h.2.1.1.1
  intro m
  induction m with
  | zero =>
    intro k N hk hN
    obtain ⟨N, rfl⟩ : ∃ N', N = N' + 1 := ⟨N - 1, by omega⟩
    have e : k = n := by omega
    subst e
    rw [zu_X4_free_13, h7, if_pos (nI_le (Nat.le_refl _) (by omega))]
  | succ m ih =>
    intro k N hk hN
    obtain ⟨N, rfl⟩ : ∃ N', N = N' + 1 := ⟨N - 1, by omega⟩
    have ih1 := ih (k + 1) N (by omega) (by omega)
    rw [fb_ct_succ] at ih1
    rw [zu_X4_free_13, h7, if_neg (nI_ge (by omega) (by omega)), nI_1]
    by_cases c : k = a
    · have e : q_fr P n a k = false := by
        unfold q_fr
        rw [decide_eq_false (fun hc => hc c), Bool.false_and]
      rw [e] at ih1
      rw [if_pos (by rw [c])]
      exact ih1
    · rw [if_neg (fun hc => c ((nI_eq (by omega) (by omega)).mp hc)), q_xth h hf ha (show k < n by omega), q_bI]
      cases ht : q_th P n a k with
      | true =>
        have e : q_fr P n a k = false := by
          unfold q_fr
          rw [ht, Bool.not_true, Bool.and_false]
        rw [e] at ih1
        rw [if_neg (show ¬ (if true = true then (1 : Int32) else 0) = 0 by decide)]
        exact ih1
      | false =>
        have e : q_fr P n a k = true := by
          unfold q_fr
          rw [ht, decide_eq_true c]
          rfl
        rw [e] at ih1
        rw [if_pos (show (if false = true then (1 : Int32) else 0) = 0 by decide), nI_1]
        exact ih1
theorem q_mfree25 {P : qP} {n tp a : Nat} {g : zSG} (h : q_INV P n tp g) (hr : q_rm n 0 (q_RA P n 0 0) (g 3 0)) (ha : a < n) : ∀ (m k N : Nat), k + m = n → m < N → z_run zM_X5_free zc_X5_free zk_X5_free N 25 [(0, .inr (.inl (3, 0, 0))), (1, .inl (nI a)), (2, .inl (nI (fb_ct (q_fr P n a) k))), (3, .inl (nI k))] g (0, 0) = some (.inl (some (.inl (nI (fb_ct (q_fr P n a) n)))), g) := by
  have hn := h.1.1
  have h16 := h.2.2.2.2.1.1
  intro m
  induction m with
  | zero =>
    intro k N hk hN
    obtain ⟨N, rfl⟩ : ∃ N', N = N' + 1 := ⟨N - 1, by omega⟩
    have e : k = n := by omega
    subst e
    rw [zu_X5_free_25, h16, if_pos (nI_le (Nat.le_refl _) (by omega))]
  | succ m ih =>
    intro k N hk hN
    obtain ⟨N, rfl⟩ : ∃ N', N = N' + 1 := ⟨N - 1, by omega⟩
    have ih1 := ih (k + 1) N (by omega) (by omega)
    rw [fb_ct_succ] at ih1
    rw [zu_X5_free_25, h16, if_neg (nI_ge (by omega) (by omega)), nI_1]
    by_cases c : k = a
    · have e : q_fr P n a k = false := by
        unfold q_fr
        rw [decide_eq_false (fun hc => hc c), Bool.false_and]
      rw [e] at ih1
      rw [if_pos (by rw [c]), Int32.add_zero]
      exact ih1
    · rw [if_neg (fun hc => c ((nI_eq (by omega) (by omega)).mp hc)), q_mth h hr ha (show k < n by omega), q_bI]
      cases ht : q_th P n a k with
      | true =>
        have e : q_fr P n a k = false := by
          unfold q_fr
          rw [ht, Bool.not_true, Bool.and_false]
        rw [e] at ih1
        rw [if_neg (show ¬ (if true = true then (1 : Int32) else 0) = 0 by decide), Int32.add_zero]
        exact ih1
      | false =>
        have e : q_fr P n a k = true := by
          unfold q_fr
          rw [ht, decide_eq_true c]
          rfl
        rw [e] at ih1
        rw [if_pos (show (if false = true then (1 : Int32) else 0) = 0 by decide), nI_1]
        exact ih1
theorem q_s_free (x1 : Int32) : q_sim q_eN zF_X4_free zF_X5_free [.inl x1] := by
  intro g hg
  have hg' := hg
  obtain ⟨P, n, tp, h⟩ := hg
  have hn := h.1.1
  have hX7 := h.2.1.1.1
  have hM16 := h.2.2.2.2.1.1
  rcases q_ix x1 (n := n) (by omega) with ⟨a, ha, rfl⟩ | hb1
  · obtain ⟨g1, e1, hI1, hf, -⟩ := q_brg h
    obtain ⟨y', e2, hr, ht, hI2, -⟩ := q_rall (v := 0) (id := 0) (by decide) (q_INV_t (v := 0) hI1) (q_t0 _ _)
    have e2' : zF_X5_runAll [.inr (.inl (3, 0, 0)), .inl (0 : Int32), .inl (0 : Int32)] (z_gI g1 3 0 0 0) = some (.inl none, q_O (z_gI g1 3 0 0 0) 3 0 y') := e2
    refine ⟨.inl (some (.inl (nI (fb_ct (q_fr P n a) n)))), g1, _, _, ?_, ?_, ⟨?_, rfl⟩, P, n, tp, hI2⟩
    · rw [(ze_X4_free (nI a) g).trans (zu_X4_free_0 99999 (nI a) g), q_ckA_ok hX7 hn ha, q_bV, e1, q_bV]
      exact q_xfree13 hI1 hf ha n 0 99999 (by omega) (by omega)
    · rw [(ze_X5_free (nI a) g1).trans (zu_X5_free_0 99999 (nI a) g1), q_isA_ok (q_t0 _ _) ((q_t16 _ _).trans hI1.2.2.2.2.1.1) hn ha, q_bI, if_neg (by decide), e2', q_bV]
      exact q_mfree25 hI2 (by rw [q_O_get]; exact hr) ha n 0 99999 (by omega) (by omega)
    · rw [q_O_get]
      exact ht
  · refine q_sim_bad (b := 0) (e := 2) (c := 1) hg' ?_ ?_ (by decide) rfl
    · rw [(ze_X4_free x1 g).trans (zu_X4_free_0 99999 x1 g), q_ckA_bad hX7 hb1, q_bVx]
    · rw [(ze_X5_free x1 g).trans (zu_X5_free_0 99999 x1 g), q_isA_bad (q_t0 _ _) ((q_t16 _ _).trans hM16) hn hb1, q_bI, if_pos rfl, q_tt]
/-! lag -/
def q_lag (cm st : Nat → Int32) : Nat → Nat → Int32 → Int32 → Int32
  | 0, _, _, l => l
  | m + 1, k, e, l => q_lag cm st m (k + 1) ((if cm k < e then e else cm k) + (if 1 < st k then st k else 1)) (if l < (if cm k < e then e else cm k) - cm k then (if cm k < e then e else cm k) - cm k else l)
theorem q_lag_cong {cm st cm' st' : Nat → Int32} : ∀ (m k : Nat) (e l : Int32), (∀ j, k ≤ j → j < k + m → cm j = cm' j ∧ st j = st' j) → q_lag cm st m k e l = q_lag cm' st' m k e l
  | 0, _, _, _, _ => rfl
  | m + 1, k, e, l, h => by
    obtain ⟨h1, h2⟩ := h k (by omega) (by omega)
    rw [q_lag, q_lag, h1, h2]
    exact q_lag_cong m (k + 1) _ _ (fun j h1 h2 => h j (by omega) (by omega))
theorem q_le_if {x w : Int32} {α : Type} (a b : α) : (if x ≤ w then a else b) = (if w < x then b else a) := by
  by_cases h : x ≤ w
  · rw [if_pos h, if_neg (fun hc => (fa_of_lt hc).2.1 h)]
  · rw [if_neg h, if_pos (fa_of_nle h)]
theorem q_mxe {x e : Int32} (h : x ≤ e) : (if x < e then e else x) = e := by
  by_cases c : x < e
  · rw [if_pos c]
  · rw [if_neg c]
    by_cases c2 : x = e
    · exact c2
    · exact absurd (fa_le_ne h c2) c
theorem q_mxn {x e : Int32} (h : ¬ x ≤ e) : (if x < e then e else x) = x := if_neg (fun c => h (fa_of_lt c).1)
theorem q_xlag59 {P : qP} {n tp v : Nat} {g : zSG} {x2 x3 : Int32} (h : q_INV P n tp g) (hv : v < 2) (h3 : ¬ x3 = 0) : ∀ (m k N : Nat) (e l : Int32), k + m = n → m < N → z_run zM_X4_lag zc_X4_lag zk_X4_lag N 59 [(0, .inr (.inl (0, 0, 0))), (2, .inl x2), (3, .inl x3), (4, .inr (.inl (4, v, 0))), (5, .inl e), (6, .inl l), (7, .inl (nI k))] g (3, 18) = some (.inl (some (.inl (q_lag (fun j => nI (q_tk P (q_lineF (q_tk P) n j)) * x2 / x3) (fun j => (g 4 v).2 5 (q_lineF (q_tk P) n j)) m k e l))), g) := by
  have hn := h.1.1
  have h7 := h.2.1.1.1
  intro m
  induction m with
  | zero =>
    intro k N e l hk hN
    obtain ⟨N, rfl⟩ : ∃ N', N = N' + 1 := ⟨N - 1, by omega⟩
    rw [zu_X4_lag_59, h7, if_pos (nI_le (by omega) (by omega)), q_lag]
  | succ m ih =>
    intro k N e l hk hN
    obtain ⟨N, rfl⟩ : ∃ N', N = N' + 1 := ⟨N - 1, by omega⟩
    have hl := q_line_lt (q_tk P) n k (by omega)
    rw [zu_X4_lag_59, h7, if_neg (nI_ge (by omega) (by omega)), if_pos (q_inb' (show k < 30 by omega) (by decide)), nI_clamp (show k < 2 ^ 31 by omega), h.2.1.2.1 k (by omega), if_pos (q_inb' (show q_lineF (q_tk P) n k < 30 by omega) (by decide)), if_neg h3, nI_clamp (show q_lineF (q_tk P) n k < 2 ^ 31 by omega), (h.2.1.1.2.1 _ hl).2.2.2.1, q_max, q_bI, q_max, q_bI, if_pos (show v < 4 by omega), if_pos (show v < 4 by omega), if_pos (q_inb' (show q_lineF (q_tk P) n k < 30 by omega) (by decide)), q_max, q_bI, nI_1, q_lag]
    exact ih (k + 1) N _ _ (by omega) (by omega)
theorem q_mlag64 {P : qP} {n tp v : Nat} {g : zSG} {x2 x3 : Int32} (h : q_INV P n tp g) (h35 : (g 3 0).1 35 = nI n) (h25 : ∀ j, j < n → (g 3 0).2 25 j = nI (q_lineF (q_tk P) n j)) (h3 : ¬ x3 = 0) : ∀ (m k N : Nat) (e l : Int32), k + m = n → 3 * m < N → z_run zM_X5_lag zc_X5_lag zk_X5_lag N 64 [(0, .inr (.inl (3, 0, 0))), (2, .inl x2), (3, .inl x3), (4, .inl e), (5, .inl l), (6, .inl (nI k))] g (0, 0) = some (.inl (some (.inl (q_lag (fun j => nI (q_tk P (q_lineF (q_tk P) n j)) * x2 / x3) (fun j => (g 3 0).2 30 (q_lineF (q_tk P) n j)) m k e l))), g) := by
  have hn := h.1.1
  intro m
  induction m with
  | zero =>
    intro k N e l hk hN
    obtain ⟨N, rfl⟩ : ∃ N', N = N' + 1 := ⟨N - 1, by omega⟩
    rw [zu_X5_lag_64, h35, if_pos (nI_le (by omega) (by omega)), q_lag]
  | succ m ih =>
    intro k N e l hk hN
    obtain ⟨N, rfl⟩ : ∃ N', N = N' + 1 + 1 + 1 := ⟨N - 3, by omega⟩
    have hl := q_line_lt (q_tk P) n k (by omega)
    have ik : z_inb (nI k) 30 := q_inb' (show k < 30 by omega) (by decide)
    have il : z_inb (nI (q_lineF (q_tk P) n k)) 30 := q_inb' (show q_lineF (q_tk P) n k < 30 by omega) (by decide)
    have key : ∀ s, z_run zM_X5_lag zc_X5_lag zk_X5_lag (N + 1 + 1) 107 [(0, .inr (.inl (3, 0, 0))), (2, .inl x2), (3, .inl x3), (5, .inl l), (6, .inl (nI k)), (7, .inl (nI (q_tk P (q_lineF (q_tk P) n k)) * x2 / x3)), (8, .inl s)] g (0, 0) = z_run zM_X5_lag zc_X5_lag zk_X5_lag N 64 [(0, .inr (.inl (3, 0, 0))), (2, .inl x2), (3, .inl x3), (4, .inl (s + (if 1 < (g 3 0).2 30 (q_lineF (q_tk P) n k) then (g 3 0).2 30 (q_lineF (q_tk P) n k) else 1))), (5, .inl (if l < s - nI (q_tk P (q_lineF (q_tk P) n k)) * x2 / x3 then s - nI (q_tk P (q_lineF (q_tk P) n k)) * x2 / x3 else l)), (6, .inl (nI (k + 1)))] g (0, 0) := by
      intro s
      rw [zu_X5_lag_107, q_le_if]
      have k2 : ∀ l', z_run zM_X5_lag zc_X5_lag zk_X5_lag (N + 1) 129 [(0, .inr (.inl (3, 0, 0))), (2, .inl x2), (3, .inl x3), (5, .inl l'), (6, .inl (nI k)), (8, .inl s)] g (0, 0) = z_run zM_X5_lag zc_X5_lag zk_X5_lag N 64 [(0, .inr (.inl (3, 0, 0))), (2, .inl x2), (3, .inl x3), (4, .inl (s + (if 1 < (g 3 0).2 30 (q_lineF (q_tk P) n k) then (g 3 0).2 30 (q_lineF (q_tk P) n k) else 1))), (5, .inl l'), (6, .inl (nI (k + 1)))] g (0, 0) := by
        intro l'
        rw [zu_X5_lag_129]
        simp only [if_pos ik, nI_clamp (show k < 2 ^ 31 by omega), h25 k (by omega), if_pos il, nI_clamp (show q_lineF (q_tk P) n k < 2 ^ 31 by omega), nI_1]
        rw [q_le_if]
        by_cases c : (1 : Int32) < (g 3 0).2 30 (q_lineF (q_tk P) n k)
        · rw [if_pos c, if_pos c]
        · rw [if_neg c, if_neg c]
      rw [k2, k2]
      by_cases c : l < s - nI (q_tk P (q_lineF (q_tk P) n k)) * x2 / x3
      · rw [if_pos c, if_pos c]
      · rw [if_neg c, if_neg c]
    rw [zu_X5_lag_64, h35, if_neg (nI_ge (by omega) (by omega)), if_pos ik, nI_clamp (show k < 2 ^ 31 by omega), h25 k (by omega), if_pos il, if_neg h3, nI_clamp (show q_lineF (q_tk P) n k < 2 ^ 31 by omega), (h.2.2.2.2.1.2.1 _ hl).2.2.2.1, key, key, q_lag]
    by_cases c : nI (q_tk P (q_lineF (q_tk P) n k)) * x2 / x3 ≤ e
    · rw [if_pos c, q_mxe c]
      exact ih (k + 1) N _ _ (by omega) (by omega)
    · rw [if_neg c, q_mxn c]
      exact ih (k + 1) N _ _ (by omega) (by omega)
theorem q_s_lag (x1 x2 x3 : Int32) : q_sim q_eI zF_X4_lag zF_X5_lag [.inl x1, .inl x2, .inl x3] := by
  intro g hg
  have hg' := hg
  obtain ⟨P, n, tp, h⟩ := hg
  have hn := h.1.1
  have bad : ∀ x : Int32, (x < 1 ∨ (1000 : Int32) < x) ∨ (¬ x < 1 ∧ ¬ (1000 : Int32) < x) := fun x => by
    by_cases c1 : x < 1
    · exact Or.inl (Or.inl c1)
    · by_cases c2 : (1000 : Int32) < x
      · exact Or.inl (Or.inr c2)
      · exact Or.inr ⟨c1, c2⟩
  rcases q_ix x1 (n := 2) (by decide) with ⟨v, hv, rfl⟩ | hv2
  · have hX := (ze_X4_lag (nI v) x2 x3 g).trans (zu_X4_lag_0 99999 (nI v) x2 x3 g)
    rw [q_ckV_ok hv, q_bV] at hX
    rcases bad x2 with b2 | ⟨a2, b2⟩
    · refine q_sim_bad (b := 0) (e := 0) (c := 1) hg' (hX.trans ?_) ?_ (by decide) rfl
      · rcases b2 with b2 | b2
        · rw [if_pos b2]
        · by_cases c1 : x2 < 1
          · rw [if_pos c1]
          · rw [if_neg c1, if_pos b2]
      · rw [(ze_X5_lag (nI v) x2 x3 g).trans (zu_X5_lag_0 99999 (nI v) x2 x3 g), q_isV_ok hv, q_bI, if_neg (by decide), q_wi_bad b2, q_bI, if_pos rfl, q_may0 (q_t0 _ _) (by decide), q_bI, if_pos rfl, q_tt]
    · rw [if_neg a2, if_neg b2] at hX
      rcases bad x3 with b3 | ⟨a3, b3⟩
      · refine q_sim_bad (b := 0) (e := 0) (c := 1) hg' (hX.trans ?_) ?_ (by decide) rfl
        · rcases b3 with b3 | b3
          · rw [if_pos b3]
          · by_cases c1 : x3 < 1
            · rw [if_pos c1]
            · rw [if_neg c1, if_neg ((fa_of_lt b3).2.1)]
        · rw [(ze_X5_lag (nI v) x2 x3 g).trans (zu_X5_lag_0 99999 (nI v) x2 x3 g), q_isV_ok hv, q_bI, if_neg (by decide), q_wi_ok a2 b2, q_bI, if_neg (by decide), q_wi_bad b3, q_bI, if_pos rfl, q_may0 (q_t0 _ _) (by decide), q_bI, if_pos rfl, q_tt]
      · have h30 : ¬ x3 = 0 := by
          rintro rfl
          exact a3 (by decide)
        obtain ⟨g1, e1, hI1, hf, -⟩ := q_brg h
        obtain ⟨y', e2, hr, ht, hI2, -, l35, l25⟩ := q_rall (id := 0) hv (q_INV_t (v := 0) hI1) (q_t0 _ _)
        have hx := q_fxv hv hf
        rw [if_neg a3, if_pos (fa_of_nlt b3), e1, q_bV, if_pos (q_inb' hv (by decide)), nI_clamp (by omega)] at hX
        have ex := q_xlag59 (x2 := x2) (x3 := x3) hI1 hv h30 n 0 99999 0 0 (by omega) (by omega)
        have em := q_mlag64 (v := v) (x2 := x2) (x3 := x3) (g := q_O (z_gI g1 3 0 0 0) 3 0 y') hI2 (by rw [q_O_get]; exact l35) (by rw [q_O_get]; exact l25) h30 n 0 99998 0 0 (by omega) (by omega)
        refine ⟨_, g1, _, _, hX.trans ex, Eq.trans ?_ em, ⟨?_, ?_⟩, P, n, tp, hI2⟩
        · rw [(ze_X5_lag (nI v) x2 x3 g1).trans (zu_X5_lag_0 99999 (nI v) x2 x3 g1), q_isV_ok hv, q_bI, if_neg (by decide), q_wi_ok a2 b2, q_bI, if_neg (by decide), q_wi_ok a3 b3, q_bI, if_neg (by decide), q_may1 (q_t0 _ _), q_bI, if_neg (by decide), zu_X5_lag_49, e2, q_bV]
          rfl
        · rw [q_O_get]
          exact ht
        · refine q_lag_cong n 0 0 0 (fun j _ hj => ⟨rfl, ?_⟩)
          have hl := q_line_lt (q_tk P) n j (by omega)
          obtain ⟨E, m, hE, hm, h4, hX2, hM2⟩ := q_same hl hn hx hr
          rw [q_O_get]
          exact hX2.2.2.2.2.2.trans hM2.2.2.2.2.symm
  · refine q_sim_bad (b := 0) (e := 0) (c := 1) hg' ?_ ?_ (by decide) rfl
    · rw [(ze_X4_lag x1 x2 x3 g).trans (zu_X4_lag_0 99999 x1 x2 x3 g), q_ckV_bad hv2, q_bVx]
    · rw [(ze_X5_lag x1 x2 x3 g).trans (zu_X5_lag_0 99999 x1 x2 x3 g), q_isV_bad hv2, q_bI, if_pos rfl, q_may0 (q_t0 _ _) (by decide), q_bI, if_pos rfl, q_tt]
