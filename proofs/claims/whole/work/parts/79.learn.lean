/-! ===== pure part: learn ===== -/
def q_lf (p : Nat → Bool) (kd : Nat) : Nat → Nat → (Nat → Int32) → Nat → (Nat → Int32) × Nat
  | 0, _, nz, c => (nz, c)
  | m + 1, k, nz, c => if p k = true ∧ nz (kd * 8 + k) = 0 then q_lf p kd m (k + 1) (upd nz (kd * 8 + k) 1) (c + 1) else q_lf p kd m (k + 1) nz c
theorem q_lf_add (p : Nat → Bool) (kd : Nat) : ∀ (m k : Nat) (nz : Nat → Int32) (c d : Nat), q_lf p kd m k nz (c + d) = ((q_lf p kd m k nz d).1, c + (q_lf p kd m k nz d).2)
  | 0, _, _, _, _ => rfl
  | m + 1, k, nz, c, d => by
    rw [q_lf, q_lf]
    split
    · rw [show c + d + 1 = c + (d + 1) by omega]
      exact q_lf_add p kd m (k + 1) _ c (d + 1)
    · exact q_lf_add p kd m (k + 1) nz c d
def q_R (u v : Nat → Int32) : Prop := ∀ j, j < 32 → u j = v j ∧ (u j = 0 ∨ u j = 1)
theorem q_lf_R {p : Nat → Bool} {kd : Nat} (hk : kd < 4) : ∀ (m k : Nat) (u v : Nat → Int32) (c : Nat), k + m ≤ 8 → q_R u v → q_R (q_lf p kd m k u c).1 (q_lf p kd m k v c).1 ∧ (q_lf p kd m k u c).2 = (q_lf p kd m k v c).2
  | 0, _, _, _, _, _, h => ⟨h, rfl⟩
  | m + 1, k, u, v, c, hm, h => by
    rw [q_lf, q_lf, (h (kd * 8 + k) (by omega)).1]
    split
    · refine q_lf_R hk m (k + 1) _ _ _ (by omega) (fun j hj => ?_)
      by_cases e : j = kd * 8 + k
      · subst e
        rw [pk_us, pk_us]
        exact ⟨rfl, Or.inr rfl⟩
      · rw [pk_un e, pk_un e]
        exact h j hj
    · exact q_lf_R hk m (k + 1) _ _ _ (by omega) h
def q_pp (A B : Nat → Option zLS) (k f : Nat) : Bool := match A k, B k with
  | some E, some E' => decide (¬ E.2 1 f = E'.2 1 f)
  | _, _ => false
def q_pm (A B : Nat → Option zLS) (k : Nat) : Nat := match A k, B k with
  | some E, some E' => min (q_ln E) (q_ln E')
  | _, _ => 0
def q_lo (A B : Nat → Option zLS) (kd : Nat → Nat) : Nat → Nat → (Nat → Int32) → Nat → (Nat → Int32) × Nat
  | 0, _, nz, c => (nz, c)
  | m + 1, k, nz, c => q_lo A B kd m (k + 1) (q_lf (q_pp A B k) (kd k) (q_pm A B k) 0 nz c).1 (q_lf (q_pp A B k) (kd k) (q_pm A B k) 0 nz c).2
theorem q_lo_R {A B : Nat → Option zLS} {kd : Nat → Nat} {n : Nat} (hk : ∀ i, i < n → kd i < 4) (hp : ∀ i, i < n → q_pm A B i ≤ 8) : ∀ (m k : Nat) (u v : Nat → Int32) (c : Nat), k + m ≤ n → q_R u v → q_R (q_lo A B kd m k u c).1 (q_lo A B kd m k v c).1 ∧ (q_lo A B kd m k u c).2 = (q_lo A B kd m k v c).2
  | 0, _, _, _, _, _, h => ⟨h, rfl⟩
  | m + 1, k, u, v, c, hm, h => by
    obtain ⟨h1, h2⟩ := q_lf_R (p := q_pp A B k) (hk k (by omega)) (q_pm A B k) 0 u v c (by have := hp k (by omega); omega) h
    rw [q_lo, q_lo, h2]
    exact q_lo_R hk hp m (k + 1) _ _ _ (by omega) h1
theorem q_xlf {g : zSG} {w : zLS} {i kd m1 m2 : Nat} {E E' : zLS} (hi : i < 30) (hkd : kd < 4) (hm1 : m1 ≤ 8) (hm2 : m2 ≤ 8) (f1 : ∀ j, j < m1 → (g 4 0).2 1 (i * 8 + j) = E.2 1 j) (f2 : ∀ j, j < m2 → (g 4 2).2 1 (i * 8 + j) = E'.2 1 j) (hk : (g 2 0).2 0 i = nI kd) : ∀ (m k N : Nat) (nz : Nat → Int32) (c : Nat), k + m = min m1 m2 → m < N → z_run zM_X4_learnFrom zc_X4_learnFrom zk_X4_learnFrom N 23 [(0, .inr (.inl (0, 0, 0))), (1, .inl (nI i)), (2, .inr (.inl (4, 0, 0))), (3, .inr (.inl (4, 2, 0))), (4, .inl (nI (min m1 m2))), (5, .inl (nI c)), (6, .inl (nI k))] (q_O g 0 0 (w.1, va_up w.2 3 nz)) (0, 0) = some (.inl (some (.inl (nI (q_lf (fun f => decide (¬ E.2 1 f = E'.2 1 f)) kd m k nz c).2))), q_O g 0 0 (w.1, va_up w.2 3 (q_lf (fun f => decide (¬ E.2 1 f = E'.2 1 f)) kd m k nz c).1)) := by
  have hi3 : z_inb (nI i) 30 := q_inb' hi (by decide)
  have hmn := Nat.min_le_left m1 m2
  have hmn2 := Nat.min_le_right m1 m2
  intro m
  induction m with
  | zero =>
    intro k N nz c hk2 hN
    obtain ⟨N, rfl⟩ : ∃ N', N = N' + 1 := ⟨N - 1, by omega⟩
    rw [zu_X4_learnFrom_23, if_pos (nI_le (by omega) (by omega)), q_lf]
  | succ m ih =>
    intro k N nz c hk2 hN
    obtain ⟨N, rfl⟩ : ∃ N', N = N' + 1 := ⟨N - 1, by omega⟩
    have e8 : nI i * (8 : Int32) + nI k = nI (i * 8 + k) := by rw [show (8 : Int32) = nI 8 from rfl, pk_mul, nI_add]
    have e9 : nI kd * (8 : Int32) + nI k = nI (kd * 8 + k) := by rw [show (8 : Int32) = nI 8 from rfl, pk_mul, nI_add]
    have i8 : z_inb (nI (i * 8 + k)) 240 := q_inb' (by omega) (by decide)
    have i9 : z_inb (nI (kd * 8 + k)) 32 := q_inb' (by omega) (by decide)
    rw [zu_X4_learnFrom_23, if_neg (nI_ge (by omega) (by omega)), if_pos hi3, if_pos (by decide), if_pos (by decide), e8, if_pos i8, if_pos (by decide), if_pos (by decide), if_pos i8, nI_clamp (show i * 8 + k < 2 ^ 31 by omega), q_O_c _ _ _ (show (4 : Nat) ≠ 0 by decide), q_O_c _ _ _ (show (2 : Nat) ≠ 0 by decide), f1 k (by omega), f2 k (by omega), nI_1, nI_clamp (show i < 2 ^ 31 by omega), hk, e9, if_pos i9, if_pos i9, nI_clamp (show kd * 8 + k < 2 ^ 31 by omega), q_O_get, show ((w.1, va_up w.2 3 nz) : zLS).2 3 = nz from rfl, nI_1, q_lf]
    by_cases c1 : E.2 1 k = E'.2 1 k
    · rw [if_pos c1, if_neg (fun hc => (of_decide_eq_true hc.1) c1)]
      exact ih (k + 1) N nz c (by omega) (by omega)
    · rw [if_neg c1]
      by_cases c2 : nz (kd * 8 + k) = 0
      · rw [if_pos c2, if_pos ⟨decide_eq_true c1, c2⟩]
        simp only [q_gA, q_O_get, q_O_O, bx_uu]
        exact ih (k + 1) N _ (c + 1) (by omega) (by omega)
      · rw [if_neg c2, if_neg (fun hc => c2 hc.2)]
        exact ih (k + 1) N nz c (by omega) (by omega)
theorem q_xlearn21 {P : qP} {n : Nat} {g : zSG} {w : zLS} {A B : Nat → Option zLS} (hw : q_wP P n) (hb : q_bk P n (g 2 0)) (hA : ∀ i, i < n → ∃ E, A i = some E ∧ q_rsX (g 4 0) i E) (hB : ∀ i, i < n → ∃ E, B i = some E ∧ q_rsX (g 4 2) i E) : ∀ (m k N : Nat) (nz : Nat → Int32) (c : Nat), k + m = n → m < N → z_run zM_X4_learn zc_X4_learn zk_X4_learn N 21 [(0, .inr (.inl (0, 0, 0))), (1, .inl (nI c)), (2, .inl (nI k))] (q_O g 0 0 (w.1, va_up w.2 3 nz)) (0, 0) = some (.inl (some (.inl (nI (q_lo A B (q_kd P) m k nz c).2))), q_O g 0 0 (upd w.1 10 0, va_up w.2 3 (q_lo A B (q_kd P) m k nz c).1)) := by
  have hn := hw.1
  intro m
  induction m with
  | zero =>
    intro k N nz c hk hN
    obtain ⟨N, rfl⟩ : ∃ N', N = N' + 1 := ⟨N - 1, by omega⟩
    rw [zu_X4_learn_21, q_O_c _ _ _ (show (2 : Nat) ≠ 0 by decide), hb.1, if_pos (nI_le (by omega) (by omega)), q_lo]
    simp only [q_gI, q_O_get, q_O_O]
  | succ m ih =>
    intro k N nz c hk hN
    obtain ⟨N, rfl⟩ : ∃ N', N = N' + 1 := ⟨N - 1, by omega⟩
    obtain ⟨E, hE, m1, hm1, l1, r1, f1, -⟩ := hA k (by omega)
    obtain ⟨E', hE', m2, hm2, l2, r2, f2, -⟩ := hB k (by omega)
    have hk3 : z_inb (nI k) 30 := q_inb' (show k < 30 by omega) (by decide)
    have i0 : z_inb (0 : Int32) 2 := q_inb' (k := 0) (by decide) (by decide)
    have kk := (hw.2.1 k (by omega)).1
    have ef := q_xlf (g := g) (w := w) (show k < 30 by omega) kk hm1 hm2 f1 f2 (hb.2.1 k (by omega)).1 (min m1 m2) 0 99999 nz 0 (by omega) (by omega)
    have epp : q_pp A B k = fun f => decide (¬ E.2 1 f = E'.2 1 f) := by
      funext f
      unfold q_pp
      rw [hE, hE']
    have epm : q_pm A B k = min m1 m2 := by
      unfold q_pm
      rw [hE, hE']
      show min (q_ln E) (q_ln E') = _
      rw [q_ln_of l1 hm1, q_ln_of l2 hm2]
    have eF : zF_X4_learnFrom [.inr (.inl (0, 0, 0)), .inl (nI k), .inr (.inl (4, 0, 0)), .inr (.inl (4, 2, 0))] (q_O g 0 0 (w.1, va_up w.2 3 nz)) = some (.inl (some (.inl (nI (q_lf (q_pp A B k) (q_kd P k) (q_pm A B k) 0 nz 0).2))), q_O g 0 0 (w.1, va_up w.2 3 (q_lf (q_pp A B k) (q_kd P k) (q_pm A B k) 0 nz 0).1)) := by
      rw [epp, epm, ← ef, (ze_X4_learnFrom (nI k) 0 (by decide) 2 (by decide) _).trans (zu_X4_learnFrom_0 99999 (nI k) 0 2 _), if_pos (by decide), if_pos (by decide), if_pos hk3, if_pos (by decide), if_pos (by decide), if_pos hk3, q_O_c _ _ _ (show (4 : Nat) ≠ 0 by decide), nI_clamp (by omega), r1, r2, q_min, q_bI, q_minN hm1 hm2]
      rfl
    rw [zu_X4_learn_21, q_O_c _ _ _ (show (2 : Nat) ≠ 0 by decide), hb.1, if_neg (nI_ge (by omega) (by omega)), if_pos i0, if_pos i0, show (0 : Int32).toNatClampNeg = 0 from rfl, show 2 + 0 = 2 from rfl, eF, q_bI, nI_1, nI_add, q_lo]
    have e0 := q_lf_add (q_pp A B k) (q_kd P k) (q_pm A B k) 0 nz c 0
    rw [Nat.add_zero] at e0
    rw [e0]
    exact ih (k + 1) N _ _ (by omega) (by omega)
theorem q_mlf {g : zSG} {y : zLS} {i kd m1 m2 : Nat} {E E' : zLS} (hi : i < 30) (hkd : kd < 4) (hm1 : m1 ≤ 8) (hm2 : m2 ≤ 8) (r1 : y.2 40 i = nI m1) (r2 : y.2 26 i = nI m2) (f1 : ∀ j, j < m1 → y.2 41 (i * 8 + j) = E.2 1 j) (f2 : ∀ j, j < m2 → y.2 27 (i * 8 + j) = E'.2 1 j) (hk : y.2 19 i = nI kd) : ∀ (m k N : Nat) (nz : Nat → Int32) (c : Nat), k + m = min m1 m2 → z_run zM_X5_learn zc_X5_learn zk_X5_learn (N + m + 1) 36 [(0, .inr (.inl (3, 0, 0))), (1, .inl (nI c)), (2, .inl (nI i)), (3, .inl (nI k))] (q_O g 3 0 (y.1, va_up y.2 39 nz)) (0, 0) = z_run zM_X5_learn zc_X5_learn zk_X5_learn N 26 [(0, .inr (.inl (3, 0, 0))), (1, .inl (nI (q_lf (fun f => decide (¬ E.2 1 f = E'.2 1 f)) kd m k nz c).2)), (2, .inl (nI (i + 1)))] (q_O g 3 0 (y.1, va_up y.2 39 (q_lf (fun f => decide (¬ E.2 1 f = E'.2 1 f)) kd m k nz c).1)) (0, 0) := by
  have hi3 : z_inb (nI i) 30 := q_inb' hi (by decide)
  have hmn := Nat.min_le_left m1 m2
  have hmn2 := Nat.min_le_right m1 m2
  intro m
  induction m with
  | zero =>
    intro k N nz c hk2
    rw [zu_X5_learn_36, if_pos hi3, nI_clamp (by omega), q_O_get, show ((y.1, va_up y.2 39 nz) : zLS).2 26 = y.2 26 from rfl, show ((y.1, va_up y.2 39 nz) : zLS).2 40 = y.2 40 from rfl, r1, r2, nI_1, q_lf]
    by_cases c0 : m2 ≤ k
    · rw [if_pos (nI_le c0 (by omega))]
    · rw [if_neg (nI_ge (by omega) (by omega)), if_pos hi3, if_pos (nI_le (show m1 ≤ k by omega) (by omega))]
  | succ m ih =>
    intro k N nz c hk2
    have e8 : (8 : Int32) * nI i + nI k = nI (i * 8 + k) := by rw [show (8 : Int32) = nI 8 from rfl, pk_mul, nI_add, Nat.mul_comm]
    have e9 : (8 : Int32) * nI kd + nI k = nI (kd * 8 + k) := by rw [show (8 : Int32) = nI 8 from rfl, pk_mul, nI_add, Nat.mul_comm]
    have i8 : z_inb (nI (i * 8 + k)) 240 := q_inb' (by omega) (by decide)
    have i9 : z_inb (nI (kd * 8 + k)) 32 := q_inb' (by omega) (by decide)
    rw [zu_X5_learn_36, if_pos hi3, nI_clamp (show i < 2 ^ 31 by omega), q_O_get, show ((y.1, va_up y.2 39 nz) : zLS).2 26 = y.2 26 from rfl, show ((y.1, va_up y.2 39 nz) : zLS).2 40 = y.2 40 from rfl, show ((y.1, va_up y.2 39 nz) : zLS).2 27 = y.2 27 from rfl, show ((y.1, va_up y.2 39 nz) : zLS).2 41 = y.2 41 from rfl, show ((y.1, va_up y.2 39 nz) : zLS).2 19 = y.2 19 from rfl, show ((y.1, va_up y.2 39 nz) : zLS).2 39 = nz from rfl, r1, r2, if_neg (nI_ge (by omega) (by omega)), if_pos hi3, if_neg (nI_ge (by omega) (by omega)), e8, if_pos i8, if_pos i8, nI_clamp (show i * 8 + k < 2 ^ 31 by omega), f1 k (by omega), f2 k (by omega), nI_1, if_pos hi3, hk, e9, if_pos i9, if_pos hi3, if_pos i9, nI_clamp (show kd * 8 + k < 2 ^ 31 by omega), nI_1, q_lf]
    by_cases c1 : E.2 1 k = E'.2 1 k
    · rw [if_pos c1.symm, if_neg (fun hc => (of_decide_eq_true hc.1) c1)]
      exact ih (k + 1) N nz c (by omega)
    · rw [if_neg (fun hc => c1 hc.symm)]
      by_cases c2 : nz (kd * 8 + k) = 0
      · rw [if_pos c2, if_pos ⟨decide_eq_true c1, c2⟩]
        simp only [q_gA, q_O_get, q_O_O, bx_uu]
        exact ih (k + 1) N _ (c + 1) (by omega)
      · rw [if_neg c2, if_neg (fun hc => c2 hc.2)]
        exact ih (k + 1) N nz c (by omega)
theorem q_mlearn26 {P : qP} {n : Nat} {g : zSG} {y : zLS} {A B : Nat → Option zLS} (hw : q_wP P n) (h16 : y.1 16 = nI n) (h19 : ∀ i, i < n → y.2 19 i = nI (q_kd P i)) (hA : ∀ i, i < n → ∃ E, A i = some E ∧ q_rsO y i E) (hB : ∀ i, i < n → ∃ E, B i = some E ∧ q_rsM y i E) : ∀ (m k N : Nat) (nz : Nat → Int32) (c : Nat), k + m = n → 10 * m < N → z_run zM_X5_learn zc_X5_learn zk_X5_learn N 26 [(0, .inr (.inl (3, 0, 0))), (1, .inl (nI c)), (2, .inl (nI k))] (q_O g 3 0 (y.1, va_up y.2 39 nz)) (0, 0) = some (.inl (some (.inl (nI (q_lo A B (q_kd P) m k nz c).2))), q_O g 3 0 (y.1, va_up y.2 39 (q_lo A B (q_kd P) m k nz c).1)) := by
  have hn := hw.1
  intro m
  induction m with
  | zero =>
    intro k N nz c hk hN
    obtain ⟨N, rfl⟩ : ∃ N', N = N' + 1 := ⟨N - 1, by omega⟩
    rw [zu_X5_learn_26, q_O_get, show ((y.1, va_up y.2 39 nz) : zLS).1 16 = nI n from h16, if_pos (nI_le (by omega) (by omega)), q_lo]
  | succ m ih =>
    intro k N nz c hk hN
    obtain ⟨E, hE, m1, hm1, l1, r1, f1⟩ := hA k (by omega)
    obtain ⟨E', hE', m2, hm2, l2, r2, f2, -⟩ := hB k (by omega)
    have hmn := Nat.min_le_left m1 m2
    obtain ⟨N, rfl⟩ : ∃ N', N = (N' + min m1 m2 + 1) + 1 := ⟨N - min m1 m2 - 2, by omega⟩
    have epp : q_pp A B k = fun f => decide (¬ E.2 1 f = E'.2 1 f) := by
      funext f
      unfold q_pp
      rw [hE, hE']
    have epm : q_pm A B k = min m1 m2 := by
      unfold q_pm
      rw [hE, hE']
      show min (q_ln E) (q_ln E') = _
      rw [q_ln_of l1 hm1, q_ln_of l2 hm2]
    have ef := q_mlf (g := g) (y := y) (show k < 30 by omega) (hw.2.1 k (by omega)).1 hm1 hm2 r1 r2 f1 f2 (h19 k (by omega)) (min m1 m2) 0 N nz c (by omega)
    rw [zu_X5_learn_26, q_O_get, show ((y.1, va_up y.2 39 nz) : zLS).1 16 = nI n from h16, if_neg (nI_ge (by omega) (by omega)), q_lo, epp, epm]
    exact ef.trans (ih (k + 1) N _ _ (by omega) (by omega))
theorem q_s_learn : q_sim (fun _ => 0) zF_X4_learn zF_X5_learn [] := by
  intro g hg
  obtain ⟨P, n, tp, h⟩ := hg
  have hn := h.1.1
  obtain ⟨g1, e1, hI1, hf, k3, -⟩ := q_brg h
  obtain ⟨y2, e2, r2, z2, -⟩ := q_xall (r := 2) (v := 0) (id := 1000000) (g := g1) (by decide) (by decide) hI1.1 hI1.2.1 (hI1.2.2.1 2 (by decide))
  have e2' : zF_X4_doAll [.inr (.inl (0, 0, 0)), .inr (.inl (4, 2, 0)), .inl (0 : Int32), .inl (1000000 : Int32)] g1 = some (.inl none, q_O g1 4 2 y2) := e2
  have hA : ∀ i, i < n → ∃ E, (q_RA P n 0 0).2 i = some E ∧ q_rsX (q_O g1 4 2 y2 4 0) i E := fun i hi => by
    obtain ⟨E, hE⟩ := q_RA_some P (n := n) (v := 0) 0 hi
    have := hf.1.2.2 i (by omega)
    rw [hE] at this
    exact ⟨E, hE, this.2⟩
  have hB : ∀ i, i < n → ∃ E, (q_RA P n 0 1000000).2 i = some E ∧ q_rsX (q_O g1 4 2 y2 4 2) i E := fun i hi => by
    obtain ⟨E, hE⟩ := q_RA_some P (n := n) (v := 0) 1000000 hi
    have := r2.2.2 i (by omega)
    rw [hE] at this
    rw [q_O_get]
    exact ⟨E, hE, this.2⟩
  have ex := q_xlearn21 (P := P) (n := n) (g := q_O g1 4 2 y2) (w := g1 0 0) (A := (q_RA P n 0 0).2) (B := (q_RA P n 0 1000000).2) hI1.1 hI1.2.1.1 hA hB n 0 99999 ((g1 0 0).2 3) 0 (by omega) (by omega)
  have es : q_O (q_O g1 4 2 y2) 0 0 ((g1 0 0).1, va_up (g1 0 0).2 3 ((g1 0 0).2 3)) = q_O g1 4 2 y2 := by
    rw [q_up_self]
    exact q_O_self (q_O g1 4 2 y2) 0 0
  rw [es] at ex
  have hX : zF_X4_learn [.inr (.inl (0, 0, 0))] g = some (.inl (some (.inl (nI (q_lo (q_RA P n 0 0).2 (q_RA P n 0 1000000).2 (q_kd P) n 0 ((g1 0 0).2 3) 0).2))), q_O (q_O g1 4 2 y2) 0 0 (upd (g1 0 0).1 10 0, va_up (g1 0 0).2 3 (q_lo (q_RA P n 0 0).2 (q_RA P n 0 1000000).2 (q_kd P) n 0 ((g1 0 0).2 3) 0).1)) := by
    rw [(ze_X4_learn g).trans (zu_X4_learn_0 99999 g), e1, q_bV, if_pos (show z_inb (0 : Int32) 2 from q_inb' (k := 0) (by decide) (by decide)), show (0 : Int32).toNatClampNeg = 0 from rfl, show 2 + 0 = 2 from rfl, e2', q_bV]
    exact ex
  obtain ⟨i1, i2, i3, i4, i5, i6, ⟨t1, t2, t3, t4⟩, i8, i9⟩ := hI1
  obtain ⟨y3, e3, r3, p3, z3, -, -⟩ := q_mall (v := 0) (id := 0) (g := z_gI (q_O (q_O g1 4 2 y2) 0 0 (upd (g1 0 0).1 10 0, va_up (g1 0 0).2 3 (q_lo (q_RA P n 0 0).2 (q_RA P n 0 1000000).2 (q_kd P) n 0 ((g1 0 0).2 3) 0).1)) 3 0 0 0) (by decide) i1 i5 i6
  have e3' : zF_X5_runAll [.inr (.inl (3, 0, 0)), .inl (0 : Int32), .inl (0 : Int32)] (z_gI (q_O (q_O g1 4 2 y2) 0 0 (upd (g1 0 0).1 10 0, va_up (g1 0 0).2 3 (q_lo (q_RA P n 0 0).2 (q_RA P n 0 1000000).2 (q_kd P) n 0 ((g1 0 0).2 3) 0).1)) 3 0 0 0) = _ := e3
  rw [q_gI, q_O_O] at e3'
  have p3' : q_pw (g1 3 0) y3 := q_pw_pl (y := (upd (g1 3 0).1 0 0, (g1 3 0).2)) p3
  have p30 : y3.1 0 = 0 := (p3.1 0 (by decide) (by decide) (by decide) (by decide)).trans rfl
  have b3 : q_mb P n y3 := q_mb_pw i5 p3'
  obtain ⟨R, T, e4, h4⟩ := q_mka (g := q_O (q_O (q_O g1 4 2 y2) 0 0 (upd (g1 0 0).1 10 0, va_up (g1 0 0).2 3 (q_lo (q_RA P n 0 0).2 (q_RA P n 0 1000000).2 (q_kd P) n 0 ((g1 0 0).2 3) 0).1)) 3 0 y3) hn (by rw [q_O_get]; exact b3.1)
  rw [q_O_get, q_O_O] at e4
  rw [q_O_get] at h4
  have p4 : q_pw y3 (y3.1, va_up (va_up y3.2 40 R) 41 T) := ⟨rfl, rfl, fun k hk => (va_up_ne _ _ (by omega)).trans (va_up_ne _ _ (by omega))⟩
  obtain ⟨y5, e5, r5, p5, z5, -, -⟩ := q_mall (v := 0) (id := 1000000) (g := q_O (q_O (q_O g1 4 2 y2) 0 0 (upd (g1 0 0).1 10 0, va_up (g1 0 0).2 3 (q_lo (q_RA P n 0 0).2 (q_RA P n 0 1000000).2 (q_kd P) n 0 ((g1 0 0).2 3) 0).1)) 3 0 (y3.1, va_up (va_up y3.2 40 R) 41 T)) (by decide) i1 (by rw [q_O_get]; exact q_mb_pw b3 p4) (by rw [q_O_get]; exact z3)
  rw [q_O_O] at e5
  rw [q_O_get] at p5
  have e5' : zF_X5_runAll [.inr (.inl (3, 0, 0)), .inl (0 : Int32), .inl (1000000 : Int32)] (q_O (q_O (q_O g1 4 2 y2) 0 0 (upd (g1 0 0).1 10 0, va_up (g1 0 0).2 3 (q_lo (q_RA P n 0 0).2 (q_RA P n 0 1000000).2 (q_kd P) n 0 ((g1 0 0).2 3) 0).1)) 3 0 (y3.1, va_up (va_up y3.2 40 R) 41 T)) = some (.inl none, q_O (q_O (q_O g1 4 2 y2) 0 0 (upd (g1 0 0).1 10 0, va_up (g1 0 0).2 3 (q_lo (q_RA P n 0 0).2 (q_RA P n 0 1000000).2 (q_kd P) n 0 ((g1 0 0).2 3) 0).1)) 3 0 y5) := e5
  have p5' : q_pw (g1 3 0) y5 := q_pw_trans p3' (q_pw_trans p4 (q_pw_pl p5))
  have b5 : q_mb P n y5 := q_mb_pw i5 p5'
  have em := q_mlearn26 (P := P) (n := n) (g := q_O (q_O g1 4 2 y2) 0 0 (upd (g1 0 0).1 10 0, va_up (g1 0 0).2 3 (q_lo (q_RA P n 0 0).2 (q_RA P n 0 1000000).2 (q_kd P) n 0 ((g1 0 0).2 3) 0).1)) (y := y5) (A := (q_RA P n 0 0).2) (B := (q_RA P n 0 1000000).2) i1 b5.1 (fun i hi => (b5.2.1 i hi).1) (fun i hi => by
    obtain ⟨E, hE⟩ := q_RA_some P (n := n) (v := 0) 0 hi
    have h1 := r3.2.2 i hi
    rw [hE] at h1
    obtain ⟨-, m, hm, l4, l26, l27, -⟩ := h1
    obtain ⟨c1, c2⟩ := h4 i hi
    refine ⟨E, hE, m, hm, l4, ?_, fun j hj => ?_⟩
    · rw [p5.2 40 (by decide)]
      exact c1.trans l26
    · rw [p5.2 41 (by decide)]
      exact (c2 j (by omega)).trans (l27 j hj)) (fun i hi => by
    obtain ⟨E, hE⟩ := q_RA_some P (n := n) (v := 0) 1000000 hi
    have h1 := r5.2.2 i hi
    rw [hE] at h1
    exact ⟨E, hE, h1.2⟩) n 0 99999 (y5.2 39) 0 (by omega) (by omega)
  rw [q_up_self, show ((y5.1, y5.2) : zLS) = y5 from rfl] at em
  have hRR : q_R ((g1 0 0).2 3) (y5.2 39) := by
    rw [p5'.2.2 39 (by decide)]
    exact i8
  have hpm : ∀ i, i < n → q_pm (q_RA P n 0 0).2 (q_RA P n 0 1000000).2 i ≤ 8 := fun i hi => by
    obtain ⟨E, hE, m, hm, l, -⟩ := hA i hi
    obtain ⟨E', hE', m', hm', l', -⟩ := hB i hi
    unfold q_pm
    rw [hE, hE']
    show min (q_ln E) (q_ln E') ≤ 8
    rw [q_ln_of l hm]
    omega
  obtain ⟨q1, q2⟩ := q_lo_R (A := (q_RA P n 0 0).2) (B := (q_RA P n 0 1000000).2) (kd := q_kd P) (n := n) (fun i hi => (i1.2.1 i hi).1) hpm n 0 ((g1 0 0).2 3) (y5.2 39) 0 (by omega) hRR
  refine ⟨_, _, _, _, hX, Eq.trans ?_ em, ⟨?_, congrArg nI q2⟩, P, n, tp, ?_⟩
  · rw [(ze_X5_learn _).trans (zu_X5_learn_0 99999 _), q_gI]
    rw [show zF_X5_runAll [.inr (.inl (3, 0, 0)), .inl (0 : Int32), .inl (0 : Int32)] (q_O (q_O (q_O g1 4 2 y2) 0 0 (upd (g1 0 0).1 10 0, va_up (g1 0 0).2 3 (q_lo (q_RA P n 0 0).2 (q_RA P n 0 1000000).2 (q_kd P) n 0 ((g1 0 0).2 3) 0).1)) 3 0 (upd (q_O (q_O g1 4 2 y2) 0 0 (upd (g1 0 0).1 10 0, va_up (g1 0 0).2 3 (q_lo (q_RA P n 0 0).2 (q_RA P n 0 1000000).2 (q_kd P) n 0 ((g1 0 0).2 3) 0).1) 3 0).1 0 0, (q_O (q_O g1 4 2 y2) 0 0 (upd (g1 0 0).1 10 0, va_up (g1 0 0).2 3 (q_lo (q_RA P n 0 0).2 (q_RA P n 0 1000000).2 (q_kd P) n 0 ((g1 0 0).2 3) 0).1) 3 0).2)) = _ from e3', q_bV, e4, q_bV, e5', q_bV]
    rfl
  · rw [q_O_get]
    show y5.1 0 = 0
    rw [p5.1 0 (by decide) (by decide) (by decide) (by decide)]
    exact p30
  · refine ⟨i1, i2, fun r hr => ?_, i4, ?_, z5, ⟨t1, t2, p5'.1.trans t3, fun j hj => ?_⟩, q1, q_sk0 _ _ rfl⟩
    · by_cases e : r = 2
      · subst e
        show q_zx (q_O g1 4 2 y2 4 2)
        rw [q_O_get]
        exact z2
      · show q_zx (q_O g1 4 2 y2 4 r)
        rw [q_O_i _ _ _ e]
        exact i3 r hr
    · exact b5
    · show ∃ b, b < 256 ∧ (g1 0 0).2 0 j = nI b ∧ y5.2 9 j = nI b
      rw [p5'.2.2 9 (by decide)]
      exact t4 j hj
