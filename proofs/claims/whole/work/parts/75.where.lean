/-! ===== pure part: where two answers differ ===== -/
def q_whk (nz : Nat → Int32) (kd : Nat) (E E' : zLS) (b m k : Nat) : Option Nat := if q_sc (q_pd nz kd E E') m k < b then some (q_sc (q_pd nz kd E E') m k) else if q_ln E = q_ln E' then none else some b
theorem q_pd_t {nz : Nat → Int32} {kd f : Nat} {E E' : zLS} (h1 : ¬ E.2 1 f = E'.2 1 f) (h2 : nz (kd * 8 + f) = 0) : q_pd nz kd E E' f = true := by
  unfold q_pd
  rw [decide_eq_true h1, decide_eq_true h2]
  rfl
theorem q_pd_f1 {nz : Nat → Int32} {kd f : Nat} {E E' : zLS} (h1 : E.2 1 f = E'.2 1 f) : q_pd nz kd E E' f = false := by
  unfold q_pd
  rw [decide_eq_false (fun h => h h1)]
  rfl
theorem q_pd_f2 {nz : Nat → Int32} {kd f : Nat} {E E' : zLS} (h2 : ¬ nz (kd * 8 + f) = 0) : q_pd nz kd E E' f = false := by
  unfold q_pd
  rw [decide_eq_false h2, Bool.and_false]
theorem q_whk_t {nz : Nat → Int32} {kd b m k : Nat} {E E' : zLS} (h : q_pd nz kd E E' k = true) (hk : k < b) : q_whk nz kd E E' b (m + 1) k = some k := by
  unfold q_whk
  rw [q_sc, if_pos h, if_pos hk]
theorem q_whk_f {nz : Nat → Int32} {kd b m k : Nat} {E E' : zLS} (h : q_pd nz kd E E' k = false) : q_whk nz kd E E' b (m + 1) k = q_whk nz kd E E' b m (k + 1) := by
  unfold q_whk
  rw [q_sc, h]
  rfl
theorem q_whk_0 {nz : Nat → Int32} {kd b : Nat} {E E' : zLS} : q_whk nz kd E E' b 0 b = if q_ln E = q_ln E' then none else some b := by
  unfold q_whk
  rw [q_sc, if_neg (Nat.lt_irrefl _)]
theorem q_whk_is {nz : Nat → Int32} {kd : Nat} {E E' : zLS} : q_whk nz kd E E' (min (q_ln E) (q_ln E')) (min (q_ln E) (q_ln E')) 0 = q_wh nz kd E E' := rfl
theorem q_ln_of {E : zLS} {m : Nat} (h : E.1 4 = nI m) (hm : m ≤ 8) : q_ln E = m := by
  unfold q_ln
  rw [h, nI_clamp (by omega)]
theorem q_minN {a b : Nat} (ha : a ≤ 8) (hb : b ≤ 8) : (if nI b < nI a then nI b else nI a) = nI (min a b) := by
  by_cases h : b < a
  · rw [if_pos (nI_lt h (by omega)), Nat.min_eq_right (by omega)]
  · rw [if_neg (nI_nlt (by omega) (by omega)), Nat.min_eq_left (by omega)]
theorem q_xwd30 {g : zSG} {oa ob i kd m1 m2 : Nat} {E E' : zLS} {nz : Nat → Int32} (hoa : oa < 4) (hob : ob < 4) (hi : i < 30) (hkd : kd < 4) (hm1 : m1 ≤ 8) (hm2 : m2 ≤ 8) (l1 : E.1 4 = nI m1) (l2 : E'.1 4 = nI m2) (r1 : (g 4 oa).2 2 i = nI m1) (r2 : (g 4 ob).2 2 i = nI m2) (f1 : ∀ j, j < m1 → (g 4 oa).2 1 (i * 8 + j) = E.2 1 j) (f2 : ∀ j, j < m2 → (g 4 ob).2 1 (i * 8 + j) = E'.2 1 j) (hk : (g 2 0).2 0 i = nI kd) (hz : (g 0 0).2 3 = nz) : ∀ (m k N : Nat), k + m = min m1 m2 → m < N → z_run zM_X4_whereDifferent zc_X4_whereDifferent zk_X4_whereDifferent N 30 [(0, .inr (.inl (0, 0, 0))), (1, .inl (nI i)), (3, .inr (.inl (4, oa, 0))), (4, .inr (.inl (4, ob, 0))), (5, .inl (nI (min m1 m2))), (6, .inl (nI k))] g (0, 0) = some (.inl (some (.inl (q_cI (q_whk nz kd E E' (min m1 m2) m k)))), g) := by
  have hi3 : z_inb (nI i) 30 := q_inb' hi (by decide)
  have hmn := Nat.min_le_left m1 m2
  have hmn2 := Nat.min_le_right m1 m2
  intro m
  induction m with
  | zero =>
    intro k N hk2 hN
    obtain ⟨N, rfl⟩ : ∃ N', N = N' + 1 := ⟨N - 1, by omega⟩
    have e : k = min m1 m2 := by omega
    subst e
    rw [zu_X4_whereDifferent_30, if_pos (nI_le (Nat.le_refl _) (by omega)), if_pos hoa, if_pos hoa, if_pos hi3, if_pos hob, if_pos hob, if_pos hi3, nI_clamp (by omega), r1, r2, q_whk_0, q_ln_of l1 hm1, q_ln_of l2 hm2]
    by_cases e : m1 = m2
    · rw [if_pos (by rw [e]), if_pos e]
      rfl
    · rw [if_neg (fun hc => e ((nI_eq (by omega) (by omega)).mp hc)), if_neg e]
      rfl
  | succ m ih =>
    intro k N hk2 hN
    obtain ⟨N, rfl⟩ : ∃ N', N = N' + 1 := ⟨N - 1, by omega⟩
    have e8 : nI i * (8 : Int32) + nI k = nI (i * 8 + k) := by rw [show (8 : Int32) = nI 8 from rfl, pk_mul, nI_add]
    have e9 : nI kd * (8 : Int32) + nI k = nI (kd * 8 + k) := by rw [show (8 : Int32) = nI 8 from rfl, pk_mul, nI_add]
    have i8 : z_inb (nI (i * 8 + k)) 240 := q_inb' (by omega) (by decide)
    have ih1 := ih (k + 1) N (by omega) (by omega)
    rw [zu_X4_whereDifferent_30, if_neg (nI_ge (by omega) (by omega)), if_pos hoa, if_pos hoa, e8, if_pos i8, if_pos hob, if_pos hob, if_pos i8, nI_clamp (show i * 8 + k < 2 ^ 31 by omega), f1 k (by omega), f2 k (by omega), nI_1, if_pos hi3, nI_clamp (show i < 2 ^ 31 by omega), hk, e9, if_pos (q_inb' (by omega) (by decide)), nI_clamp (by omega), hz]
    by_cases c1 : E.2 1 k = E'.2 1 k
    · rw [if_pos c1, q_whk_f (q_pd_f1 c1)]
      exact ih1
    · rw [if_neg c1]
      by_cases c2 : nz (kd * 8 + k) = 0
      · rw [if_pos c2, q_whk_t (q_pd_t c1 c2) (by omega)]
        rfl
      · rw [if_neg c2, q_whk_f (q_pd_f2 c2)]
        exact ih1
theorem q_xwd {g : zSG} {i kd : Nat} {E E' : zLS} {nz : Nat → Int32} (hi : i < 30) (hkd : kd < 4) (h1 : q_rsX (g 4 0) i E) (h2 : q_rsX (g 4 1) i E') (hk : (g 2 0).2 0 i = nI kd) (hz : (g 0 0).2 3 = nz) : zF_X4_whereDifferent [.inr (.inl (0, 0, 0)), .inl (nI i), .inr (.inl (0, 0, 8))] g = some (.inl (some (.inl (q_cI (q_wh nz kd E E')))), g) := by
  obtain ⟨m1, hm1, l1, r1, f1, -⟩ := h1
  obtain ⟨m2, hm2, l2, r2, f2, -⟩ := h2
  have hi3 : z_inb (nI i) 30 := q_inb' hi (by decide)
  have e := q_xwd30 (oa := 0) (ob := 1) (by decide) (by decide) hi hkd hm1 hm2 l1 l2 r1 r2 f1 f2 hk hz (min m1 m2) 0 99999 (by omega) (by omega)
  have e0 : z_inb (0 : Int32) 2 := q_inb' (k := 0) (by decide) (by decide)
  have e1 : z_inb (1 : Int32) 2 := q_inb' (k := 1) (by decide) (by decide)
  rw [(ze_X4_whereDifferent (nI i) g).trans (zu_X4_whereDifferent_0 99999 (nI i) g)]
  rw [if_pos e0, if_pos e1, if_pos (by decide), if_pos (by decide), if_pos hi3, if_pos (by decide), if_pos (by decide), if_pos hi3, show (0 : Int32).toNatClampNeg = 0 from rfl, show (1 : Int32).toNatClampNeg = 1 from rfl, nI_clamp (show i < 2 ^ 31 by omega)]
  rw [r1, r2, q_min, q_bI, q_minN hm1 hm2]
  refine e.trans ?_
  rw [← q_whk_is, q_ln_of l1 hm1, q_ln_of l2 hm2]
theorem q_xwdT {g : zSG} {i kd : Nat} {E E' : zLS} {nz : Nat → Int32} (hi : i < 30) (hkd : kd < 4) (h1 : q_rsX (g 4 2) i E) (h2 : q_rsX (g 4 3) i E') (hk : (g 2 0).2 0 i = nI kd) (hz : (g 0 0).2 3 = nz) : zF_X4_whereDifferent [.inr (.inl (0, 0, 0)), .inl (nI i), .inr (.inl (0, 0, 9))] g = some (.inl (some (.inl (q_cI (q_wh nz kd E E')))), g) := by
  obtain ⟨m1, hm1, l1, r1, f1, -⟩ := h1
  obtain ⟨m2, hm2, l2, r2, f2, -⟩ := h2
  have hi3 : z_inb (nI i) 30 := q_inb' hi (by decide)
  have e := q_xwd30 (oa := 2) (ob := 3) (by decide) (by decide) hi hkd hm1 hm2 l1 l2 r1 r2 f1 f2 hk hz (min m1 m2) 0 99999 (by omega) (by omega)
  have e0 : z_inb (0 : Int32) 2 := q_inb' (k := 0) (by decide) (by decide)
  have e1 : z_inb (1 : Int32) 2 := q_inb' (k := 1) (by decide) (by decide)
  rw [(ze_X4_whereDifferentT (nI i) g).trans (zu_X4_whereDifferentT_0 99999 (nI i) g)]
  rw [if_pos e0, if_pos e1, if_pos (by decide), if_pos (by decide), if_pos hi3, if_pos (by decide), if_pos (by decide), if_pos hi3, show (2 + (0 : Int32).toNatClampNeg) = 2 from rfl, show (2 + (1 : Int32).toNatClampNeg) = 3 from rfl, nI_clamp (show i < 2 ^ 31 by omega)]
  rw [r1, r2, q_min, q_bI, q_minN hm1 hm2]
  refine e.trans ?_
  rw [← q_whk_is, q_ln_of l1 hm1, q_ln_of l2 hm2]
/-! the reference -/
def q_rsO (y : zLS) (i : Nat) (E : zLS) : Prop := ∃ m, m ≤ 8 ∧ E.1 4 = nI m ∧ y.2 40 i = nI m ∧ ∀ j, j < m → y.2 41 (i * 8 + j) = E.2 1 j
theorem q_mul2 {g : zSG} {i kd m1 m2 : Nat} {E E' : zLS} {nz : Nat → Int32} (hi : i < 30) (hkd : kd < 4) (hm1 : m1 ≤ 8) (hm2 : m2 ≤ 8) (l1 : E.1 4 = nI m1) (l2 : E'.1 4 = nI m2) (r1 : (g 3 0).2 40 i = nI m1) (r2 : (g 3 0).2 26 i = nI m2) (f1 : ∀ j, j < m1 → (g 3 0).2 41 (i * 8 + j) = E.2 1 j) (f2 : ∀ j, j < m2 → (g 3 0).2 27 (i * 8 + j) = E'.2 1 j) (hk : (g 3 0).2 19 i = nI kd) (hz : ∀ j, j < 32 → (g 3 0).2 39 j = nz j) : ∀ (m k N : Nat), k + m = min m1 m2 → m < N → z_run zM_X5_unlike zc_X5_unlike zk_X5_unlike N 2 [(0, .inr (.inl (3, 0, 0))), (1, .inl (nI i)), (2, .inl (nI k))] g (0, 0) = some (.inl (some (.inl (q_cI (q_whk nz kd E E' (min m1 m2) m k)))), g) := by
  have hi3 : z_inb (nI i) 30 := q_inb' hi (by decide)
  have hmn := Nat.min_le_left m1 m2
  have hmn2 := Nat.min_le_right m1 m2
  intro m
  induction m with
  | zero =>
    intro k N hk2 hN
    obtain ⟨N, rfl⟩ : ∃ N', N = N' + 1 := ⟨N - 1, by omega⟩
    have e : k = min m1 m2 := by omega
    subst e
    rw [zu_X5_unlike_2, nI_clamp (by omega), r1, r2, q_whk_0, q_ln_of l1 hm1, q_ln_of l2 hm2]
    simp only [if_pos hi3]
    have hfin : (if nI m2 = nI m1 then some ((.inl (some (.inl (-1 : Int32))), g) : zRR) else some (.inl (some (.inl (nI (min m1 m2)))), g)) = some (.inl (some (.inl (q_cI (if m1 = m2 then none else some (min m1 m2))))), g) := by
      by_cases e : m1 = m2
      · rw [if_pos (by rw [e]), if_pos e]
        rfl
      · rw [if_neg (fun hc => e ((nI_eq (by omega) (by omega)).mp hc).symm), if_neg e]
        rfl
    by_cases c : m2 ≤ min m1 m2
    · rw [if_pos (nI_le c (by omega))]
      exact hfin
    · rw [if_neg (nI_ge (by omega) (by omega)), if_pos (nI_le (show m1 ≤ min m1 m2 by omega) (by omega))]
      exact hfin
  | succ m ih =>
    intro k N hk2 hN
    obtain ⟨N, rfl⟩ : ∃ N', N = N' + 1 := ⟨N - 1, by omega⟩
    have e8 : (8 : Int32) * nI i + nI k = nI (i * 8 + k) := by rw [show (8 : Int32) = nI 8 from rfl, pk_mul, nI_add, Nat.mul_comm]
    have e9 : (8 : Int32) * nI kd + nI k = nI (kd * 8 + k) := by rw [show (8 : Int32) = nI 8 from rfl, pk_mul, nI_add, Nat.mul_comm]
    have i8 : z_inb (nI (i * 8 + k)) 240 := q_inb' (by omega) (by decide)
    have ih1 := ih (k + 1) N (by omega) (by omega)
    rw [zu_X5_unlike_2, if_pos hi3, nI_clamp (show i < 2 ^ 31 by omega), r2, if_neg (nI_ge (by omega) (by omega)), if_pos hi3, r1, if_neg (nI_ge (by omega) (by omega)), if_pos hi3, hk, e9, if_pos (q_inb' (by omega) (by decide)), nI_clamp (show kd * 8 + k < 2 ^ 31 by omega), hz _ (by omega), e8, if_pos i8, if_pos i8, nI_clamp (show i * 8 + k < 2 ^ 31 by omega), f1 k (by omega), f2 k (by omega), nI_1]
    by_cases c2 : nz (kd * 8 + k) = 0
    · rw [if_pos c2]
      by_cases c1 : E.2 1 k = E'.2 1 k
      · rw [if_pos c1.symm, q_whk_f (q_pd_f1 c1)]
        exact ih1
      · rw [if_neg (fun h => c1 h.symm), q_whk_t (q_pd_t c1 c2) (by omega)]
        rfl
    · rw [if_neg c2, q_whk_f (q_pd_f2 c2)]
      exact ih1
theorem q_mul {g : zSG} {i kd : Nat} {E E' : zLS} {nz : Nat → Int32} (hi : i < 30) (hkd : kd < 4) (h1 : q_rsO (g 3 0) i E) (h2 : q_rsM (g 3 0) i E') (hk : (g 3 0).2 19 i = nI kd) (hz : ∀ j, j < 32 → (g 3 0).2 39 j = nz j) : zF_X5_unlike [.inr (.inl (3, 0, 0)), .inl (nI i)] g = some (.inl (some (.inl (q_cI (q_wh nz kd E E')))), g) := by
  obtain ⟨m1, hm1, l1, r1, f1⟩ := h1
  obtain ⟨m2, hm2, l2, r2, f2, -⟩ := h2
  have e := q_mul2 hi hkd hm1 hm2 l1 l2 r1 r2 f1 f2 hk hz (min m1 m2) 0 99999 (by omega) (by omega)
  refine ((ze_X5_unlike (nI i) g).trans (zu_X5_unlike_0 99999 (nI i) g)).trans (e.trans ?_)
  rw [← q_whk_is, q_ln_of l1 hm1, q_ln_of l2 hm2]
/-! the answers are kept -/
theorem q_mka24 {g : zSG} {y : zLS} {i : Nat} (hi : i < 30) (R : Nat → Int32) : ∀ (m k N : Nat) (T : Nat → Int32), k + m = 8 → (∀ j, j < k → T (i * 8 + j) = y.2 27 (i * 8 + j)) →
    ∃ T', z_run zM_X5_keepAnswers zc_X5_keepAnswers zk_X5_keepAnswers (N + m + 1) 24 [(0, .inr (.inl (3, 0, 0))), (1, .inl (nI i)), (2, .inl (nI k))] (q_O g 3 0 (y.1, va_up (va_up y.2 40 R) 41 T)) (0, 0) = z_run zM_X5_keepAnswers zc_X5_keepAnswers zk_X5_keepAnswers N 2 [(0, .inr (.inl (3, 0, 0))), (1, .inl (nI (i + 1)))] (q_O g 3 0 (y.1, va_up (va_up y.2 40 R) 41 T')) (0, 0) ∧ (∀ j, j < 8 → T' (i * 8 + j) = y.2 27 (i * 8 + j)) ∧ ∀ j, j < i * 8 → T' j = T j := by
  intro m
  induction m with
  | zero =>
    intro k N T hk hT
    refine ⟨T, ?_, fun j hj => hT j (by omega), fun _ _ => rfl⟩
    rw [zu_X5_keepAnswers_24, if_pos (show (8 : Int32) ≤ nI k from nI_le (a := 8) (by omega) (by omega)), nI_1]
  | succ m ih =>
    intro k N T hk hT
    have e8 : (8 : Int32) * nI i + nI k = nI (i * 8 + k) := by rw [show (8 : Int32) = nI 8 from rfl, pk_mul, nI_add, Nat.mul_comm]
    rw [zu_X5_keepAnswers_24, if_neg (show ¬ (8 : Int32) ≤ nI k from nI_ge (b := 8) (by omega) (by decide)), e8, if_pos (q_inb' (by omega) (by decide)), if_pos (q_inb' (by omega) (by decide)), nI_clamp (by omega), nI_1]
    simp only [q_gA, q_O_get, q_O_O, va_up_self, bx_uu]
    rw [show va_up (va_up y.2 40 R) 41 T 27 = y.2 27 from rfl]
    obtain ⟨T', e1, e2, e3⟩ := ih (k + 1) N (upd T (i * 8 + k) (y.2 27 (i * 8 + k))) (by omega) (fun j hj => by
      by_cases e : j = k
      · subst e
        exact pk_us
      · rw [pk_un (by omega)]
        exact hT j (by omega))
    exact ⟨T', e1, e2, fun j hj => (e3 j hj).trans (pk_un (by omega))⟩
theorem q_mka2 {g : zSG} {y : zLS} {n : Nat} (hn : n ≤ 30) (h16 : y.1 16 = nI n) : ∀ (m i N : Nat) (R T : Nat → Int32), i + m = n → 20 * m < N → (∀ j, j < i → R j = y.2 26 j ∧ ∀ f, f < 8 → T (j * 8 + f) = y.2 27 (j * 8 + f)) →
    ∃ R' T', z_run zM_X5_keepAnswers zc_X5_keepAnswers zk_X5_keepAnswers N 2 [(0, .inr (.inl (3, 0, 0))), (1, .inl (nI i))] (q_O g 3 0 (y.1, va_up (va_up y.2 40 R) 41 T)) (0, 0) = some (.inl none, q_O g 3 0 (y.1, va_up (va_up y.2 40 R') 41 T')) ∧ ∀ j, j < n → R' j = y.2 26 j ∧ ∀ f, f < 8 → T' (j * 8 + f) = y.2 27 (j * 8 + f) := by
  intro m
  induction m with
  | zero =>
    intro i N R T hi hN hR
    obtain ⟨N, rfl⟩ : ∃ N', N = N' + 1 := ⟨N - 1, by omega⟩
    have e : i = n := by omega
    subst e
    refine ⟨R, T, ?_, hR⟩
    rw [zu_X5_keepAnswers_2, q_O_get, show ((y.1, va_up (va_up y.2 40 R) 41 T) : zLS).1 16 = nI i from h16, if_pos (nI_le (Nat.le_refl _) (by omega))]
  | succ m ih =>
    intro i N R T hi hN hR
    obtain ⟨N, rfl⟩ : ∃ N', N = (N' + 8 + 1) + 1 := ⟨N - 10, by omega⟩
    rw [zu_X5_keepAnswers_2, q_O_get, show ((y.1, va_up (va_up y.2 40 R) 41 T) : zLS).1 16 = nI n from h16, if_neg (nI_ge (by omega) (by omega)), if_pos (q_inb' (show i < 30 by omega) (by decide)), if_pos (q_inb' (show i < 30 by omega) (by decide)), nI_clamp (by omega)]
    simp only [q_gA, q_O_get, q_O_O]
    have e0 : va_up (va_up (va_up y.2 40 R) 41 T) 40 (upd (va_up (va_up y.2 40 R) 41 T 40) i (va_up (va_up y.2 40 R) 41 T 26 i)) = va_up (va_up y.2 40 (upd R i (y.2 26 i))) 41 T := by
      funext k
      unfold va_up
      by_cases c : k = 40
      · subst c; rfl
      · by_cases c2 : k = 41
        · subst c2; rfl
        · simp [c, c2]
    rw [e0]
    obtain ⟨T1, e1, e2, e3⟩ := q_mka24 (g := g) (y := y) (show i < 30 by omega) (upd R i (y.2 26 i)) 8 0 N T (by omega) (fun j hj => absurd hj (by omega))
    obtain ⟨R2, T2, e4, e5⟩ := ih (i + 1) N (upd R i (y.2 26 i)) T1 (by omega) (by omega) (fun j hj => by
      by_cases e : j = i
      · subst e
        exact ⟨pk_us, e2⟩
      · exact ⟨(pk_un e).trans (hR j (by omega)).1, fun f hf => (e3 _ (by omega)).trans ((hR j (by omega)).2 f hf)⟩)
    exact ⟨R2, T2, e1.trans e4, e5⟩
theorem q_mka {g : zSG} {n : Nat} (hn : n ≤ 30) (h16 : (g 3 0).1 16 = nI n) : ∃ R T, zF_X5_keepAnswers [.inr (.inl (3, 0, 0))] g = some (.inl none, q_O g 3 0 ((g 3 0).1, va_up (va_up (g 3 0).2 40 R) 41 T)) ∧ ∀ j, j < n → R j = (g 3 0).2 26 j ∧ ∀ f, f < 8 → T (j * 8 + f) = (g 3 0).2 27 (j * 8 + f) := by
  obtain ⟨R, T, e1, e2⟩ := q_mka2 (g := g) (y := g 3 0) hn h16 n 0 99999 ((g 3 0).2 40) ((g 3 0).2 41) (by omega) (by omega) (fun j hj => absurd hj (by omega))
  rw [q_up_self, q_up_self, show (((g 3 0).1, (g 3 0).2) : zLS) = g 3 0 from rfl, q_O_self] at e1
  exact ⟨R, T, ((ze_X5_keepAnswers g).trans (zu_X5_keepAnswers_0 99999 g)).trans e1, e2⟩
/-! both versions -/
def q_pb (y y' : zLS) : Prop := (∀ k, k ≠ 36 → k ≠ 37 → k ≠ 38 → y'.1 k = y.1 k) ∧ ∀ k, (k < 26 ∨ (34 < k ∧ k ≠ 40 ∧ k ≠ 41)) → y'.2 k = y.2 k
theorem q_pb_pr {x y : zLS} (h : q_pr x y) : q_pb x y := ⟨h.1, fun k hk => h.2 k (by omega)⟩
theorem q_pb_trans {x y z : zLS} (h : q_pb x y) (h2 : q_pb y z) : q_pb x z := ⟨fun k a b c => (h2.1 k a b c).trans (h.1 k a b c), fun k a => (h2.2 k a).trans (h.2 k a)⟩
theorem q_pw_pb {y y' : zLS} (h : q_pb y y') : q_pw y y' := ⟨h.1 1 (by decide) (by decide) (by decide), h.1 16 (by decide) (by decide) (by decide), fun k hk => h.2 k (by omega)⟩
theorem q_mboth {P : qP} {n M : Nat} {g : zSG} {L : Nat → Nat} {sel : Nat → Bool} (hw : q_wP P n) (hM : M < 2 ^ 31) (hL : ∀ j, j < n → L j < n) (hs : ∀ j, j < n → M.testBit (L j) = sel j) (hb : q_mb P n (g 3 0)) (h35 : (g 3 0).1 35 = nI n) (hR : ∀ j, j < n → (g 3 0).2 25 j = nI (L j)) (hz : q_z ((g 3 0).2 31) 8) : ∃ y', zF_X5_runBoth [.inr (.inl (3, 0, 0)), .inl (nI M)] g = some (.inl none, q_O g 3 0 y') ∧ q_rm n 1 (q_runF P 1 L sel n (q_S0 P 0)) y' ∧ (∀ i, i < n → ∀ E, (q_runF P 0 L sel n (q_S0 P 0)).2 i = some E → q_rsO y' i E) ∧ q_pb (g 3 0) y' ∧ q_z (y'.2 31) 8 := by
  have hn := hw.1
  obtain ⟨y1, e1, h1, p1, z1⟩ := q_mrun (v := 0) (id := 0) (by decide) hw hM hL hs hb h35 hR hz
  obtain ⟨R, T, e2, h2⟩ := q_mka (g := q_O g 3 0 y1) hn (by rw [q_O_get]; exact (q_mb_pr hb p1).1)
  rw [q_O_get, q_O_O] at e2
  rw [q_O_get] at h2
  have p2 : q_pb y1 (y1.1, va_up (va_up y1.2 40 R) 41 T) := ⟨fun _ _ _ _ => rfl, fun k hk => (va_up_ne _ _ (by omega)).trans (va_up_ne _ _ (by omega))⟩
  have pw := q_pw_pb (q_pb_trans (q_pb_pr p1) p2)
  obtain ⟨y3, e3, h3, p3, z3⟩ := q_mrun (v := 1) (id := 0) (g := q_O g 3 0 (y1.1, va_up (va_up y1.2 40 R) 41 T)) (by decide) hw hM hL hs (by rw [q_O_get]; exact q_mb_pw hb pw) (by rw [q_O_get]; exact (p1.1 35 (by decide) (by decide) (by decide)).trans h35) (fun j hj => by
    rw [q_O_get]
    show y1.2 25 j = _
    rw [p1.2 25 (by decide)]
    exact hR j hj) (by rw [q_O_get]; exact z1)
  rw [q_O_O] at e3
  rw [q_O_get] at p3
  refine ⟨y3, ?_, h3, fun i hi E hE => ?_, q_pb_trans (q_pb_pr p1) (q_pb_trans p2 (q_pb_pr p3)), z3⟩
  · have e1' : zF_X5_run [.inr (.inl (3, 0, 0)), .inl (0 : Int32), .inl (nI M), .inl (0 : Int32)] g = some (.inl none, q_O g 3 0 y1) := e1
    have e3' : zF_X5_run [.inr (.inl (3, 0, 0)), .inl (1 : Int32), .inl (nI M), .inl (0 : Int32)] (q_O g 3 0 (y1.1, va_up (va_up y1.2 40 R) 41 T)) = some (.inl none, q_O g 3 0 y3) := e3
    rw [(ze_X5_runBoth (nI M) g).trans (zu_X5_runBoth_0 99999 (nI M) g), e1', q_bV, e2, q_bV, e3', q_bV]
  · have h4 := h1.2.2 i hi
    rw [hE] at h4
    obtain ⟨-, m, hm, l4, l26, l27, -⟩ := h4
    obtain ⟨c1, c2⟩ := h2 i hi
    refine ⟨m, hm, l4, ?_, fun j hj => ?_⟩
    · rw [p3.2 40 (by decide)]
      exact c1.trans l26
    · rw [p3.2 41 (by decide)]
      exact (c2 j (by omega)).trans (l27 j hj)
theorem q_mbothall {P : qP} {n tp : Nat} {g : zSG} (h : q_INV P n tp g) (h0 : (g 3 0).1 0 = 0) : ∃ y', zF_X5_runBothAll [.inr (.inl (3, 0, 0))] g = some (.inl none, q_O g 3 0 y') ∧ q_rm n 1 (q_RA P n 1 0) y' ∧ (∀ i, i < n → ∀ E, (q_RA P n 0 0).2 i = some E → q_rsO y' i E) ∧ y'.1 0 = 0 ∧ q_INV P n tp (q_O g 3 0 y') ∧ y'.1 35 = nI n ∧ (∀ j, j < n → y'.2 25 j = nI (q_lineF (q_tk P) n j)) := by
  have hI := h
  obtain ⟨hw, -, -, -, hb, hz, -⟩ := h
  have hn := hw.1
  have h2n : 2 ^ n ≤ 2 ^ 30 := Nat.pow_le_pow_right (by decide) hn
  obtain ⟨y1, e1, b1, c1, d1, p1, k1⟩ := q_mlined hw hb
  obtain ⟨y2, e2, h2, o2, p2, z2⟩ := q_mboth (P := P) (n := n) (M := 2 ^ n - 1) (g := q_O g 3 0 y1) (L := q_lineF (q_tk P) n) (sel := fun _ => true) hw (by omega) (fun j hj => q_line_lt _ n j hj) (fun j hj => q_ones (q_line_lt _ n j hj)) (by rw [q_O_get]; exact b1) (by rw [q_O_get]; exact c1) (by rw [q_O_get]; exact d1) (by rw [q_O_get, k1]; exact hz)
  rw [q_O_O] at e2
  rw [q_O_get] at p2
  refine ⟨y2, ?_, h2, o2, ?_, q_INV_M hI (q_pw_trans (q_pw_pl p1) (q_pw_pb p2)) z2, (p2.1 35 (by decide) (by decide) (by decide)).trans c1, fun j hj => by rw [p2.2 25 (by decide)]; exact d1 j hj⟩
  · rw [(ze_X5_runBothAll g).trans (zu_X5_runBothAll_0 99999 g), e1, q_bV, q_O_get, b1.1, q_full hn, e2, q_bV]
  · rw [p2.1 0 (by decide) (by decide) (by decide), p1.1 0 (by decide) (by decide) (by decide) (by decide)]
    exact h0
/-! differs -/
theorem q_wA_is {P : qP} {n a : Nat} {nz : Nat → Int32} {E E' : zLS} (h : (q_RA P n 0 0).2 a = some E) (h' : (q_RA P n 1 0).2 a = some E') : q_wA P n nz a = q_wh nz (q_kd P a) E E' := by
  unfold q_wA q_dif
  rw [show (q_runF P 0 (q_lineF (q_tk P) n) (fun _ => true) n (q_S0 P 0)).2 a = some E from h, show (q_runF P 1 (q_lineF (q_tk P) n) (fun _ => true) n (q_S0 P 0)).2 a = some E' from h']
  rfl
/-- whereDifferent with all asks -/
theorem q_xwA {P : qP} {n tp a : Nat} {g : zSG} (h : q_INV P n tp g) (hf : q_fx P n g) (ha : a < n) : zF_X4_whereDifferent [.inr (.inl (0, 0, 0)), .inl (nI a), .inr (.inl (0, 0, 8))] g = some (.inl (some (.inl (q_cI (q_wA P n ((g 0 0).2 3) a)))), g) := by
  have hn := h.1.1
  obtain ⟨E, hE⟩ := q_RA_some P (n := n) (v := 0) 0 ha
  obtain ⟨E', hE'⟩ := q_RA_some P (n := n) (v := 1) 0 ha
  have h1 := hf.1.2.2 a (by omega)
  have h2 := hf.2.2.2 a (by omega)
  rw [hE] at h1
  rw [hE'] at h2
  rw [q_wA_is hE hE']
  exact q_xwd (by omega) (h.1.2.1 a ha).1 h1.2 h2.2 (h.2.1.1.2.1 a ha).1 rfl
theorem q_mwA {P : qP} {n tp a : Nat} {g : zSG} (h : q_INV P n tp g) (h1 : q_rm n 1 (q_RA P n 1 0) (g 3 0)) (h2 : ∀ i, i < n → ∀ E, (q_RA P n 0 0).2 i = some E → q_rsO (g 3 0) i E) (ha : a < n) : zF_X5_unlike [.inr (.inl (3, 0, 0)), .inl (nI a)] g = some (.inl (some (.inl (q_cI (q_wA P n ((g 0 0).2 3) a)))), g) := by
  have hn := h.1.1
  obtain ⟨E, hE⟩ := q_RA_some P (n := n) (v := 0) 0 ha
  obtain ⟨E', hE'⟩ := q_RA_some P (n := n) (v := 1) 0 ha
  have h3 := h1.2.2 a ha
  rw [hE'] at h3
  rw [q_wA_is hE hE']
  exact q_mul (by omega) (h.1.2.1 a ha).1 (h2 a ha E hE) h3.2 (h.2.2.2.2.1.2.1 a ha).1 (fun j hj => (h.2.2.2.2.2.2.2.1 j hj).1.symm)
theorem q_s_differs (x1 : Int32) : q_sim q_eN zF_X4_differs zF_X5_differs [.inl x1] := by
  intro g hg
  have hg' := hg
  obtain ⟨P, n, tp, h⟩ := hg
  have hn := h.1.1
  have hX7 := h.2.1.1.1
  have hM16 := h.2.2.2.2.1.1
  rcases q_ix x1 (n := n) (by omega) with ⟨i, hi, rfl⟩ | ha
  · obtain ⟨g1, e1, hI1, hf, -⟩ := q_brg h
    obtain ⟨y', e2, r1, r2, t0, hI2, -⟩ := q_mbothall (q_INV_t (v := 0) hI1) (q_t0 _ _)
    have ex := q_xwA hI1 hf hi
    have em := q_mwA hI2 (by rw [q_O_get]; exact r1) (by rw [q_O_get]; exact r2) hi
    refine ⟨.inl (some (.inl (q_cI (q_wA P n ((g1 0 0).2 3) i)))), g1, q_cI (q_wA P n ((g1 0 0).2 3) i), _, ?_, ?_, ⟨?_, rfl⟩, P, n, tp, hI2⟩
    · rw [(ze_X4_differs (nI i) g).trans (zu_X4_differs_0 99999 (nI i) g), q_ckA_ok hX7 hn hi, q_bV, e1, q_bV, ex, q_bI]
    · rw [(ze_X5_differs (nI i) g1).trans (zu_X5_differs_0 99999 (nI i) g1), q_isA_ok (q_t0 _ _) ((q_t16 _ _).trans hI1.2.2.2.2.1.1) hn hi, q_bI, if_neg (by decide), e2, q_bV, em, q_bI]
      rfl
    · rw [q_O_get]
      exact t0
  · refine q_sim_bad (b := 0) (e := 2) (c := 1) hg' ?_ ?_ (by decide) rfl
    · rw [(ze_X4_differs x1 g).trans (zu_X4_differs_0 99999 x1 g), q_ckA_bad hX7 ha, q_bVx]
    · rw [(ze_X5_differs x1 g).trans (zu_X5_differs_0 99999 x1 g), q_isA_bad (q_t0 _ _) ((q_t16 _ _).trans hM16) hn ha, q_bI, if_pos rfl, q_tt]
