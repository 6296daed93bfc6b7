/-! ===== pure part: the order of the asks ===== -/
def q_insF (tk : Nat → Nat) (k : Nat) : Nat → (Nat → Nat) → Nat → Nat
  | 0, L => va_up L 0 k
  | i + 1, L => if tk (L i) ≤ tk k then va_up L (i + 1) k else q_insF tk k i (va_up L (i + 1) (L i))
def q_lineF (tk : Nat → Nat) : Nat → Nat → Nat
  | 0 => fun _ => 0
  | n + 1 => q_insF tk n n (q_lineF tk n)
theorem q_insF_is (tk : Nat → Nat) (k : Nat) : ∀ (i : Nat) (L : Nat → Nat), ∃ p, p ≤ i ∧ (∀ j, j < p → q_insF tk k i L j = L j) ∧ q_insF tk k i L p = k ∧ (∀ j, p ≤ j → j < i → q_insF tk k i L (j + 1) = L j) ∧ ∀ j, i < j → q_insF tk k i L j = L j
  | 0, L => ⟨0, Nat.le_refl _, fun j hj => absurd hj (by omega), va_up_self _ _ _, fun j _ hj => absurd hj (by omega), fun j hj => va_up_ne _ _ (by omega)⟩
  | i + 1, L => by
    by_cases h : tk (L i) ≤ tk k
    · rw [q_insF, if_pos h]
      exact ⟨i + 1, Nat.le_refl _, fun j hj => va_up_ne _ _ (by omega), va_up_self _ _ _, fun j h1 h2 => absurd h2 (by omega), fun j hj => va_up_ne _ _ (by omega)⟩
    · rw [q_insF, if_neg h]
      obtain ⟨p, hp, h1, h2, h3, h4⟩ := q_insF_is tk k i (va_up L (i + 1) (L i))
      refine ⟨p, by omega, fun j hj => (h1 j hj).trans (va_up_ne _ _ (by omega)), h2, fun j hj hj2 => ?_, fun j hj => (h4 j (by omega)).trans (va_up_ne _ _ (by omega))⟩
      by_cases e : j = i
      · subst e
        exact (h4 (j + 1) (by omega)).trans (va_up_self _ _ _)
      · exact (h3 j hj (by omega)).trans (va_up_ne _ _ (by omega))
theorem q_line_lt (tk : Nat → Nat) : ∀ (n j : Nat), j < n → q_lineF tk n j < n
  | 0, j, h => absurd h (by omega)
  | n + 1, j, h => by
    rw [q_lineF]
    obtain ⟨p, hp, h1, h2, h3, -⟩ := q_insF_is tk n n (q_lineF tk n)
    rcases Nat.lt_trichotomy j p with e | e | e
    · rw [h1 j e]
      have := q_line_lt tk n j (by omega)
      omega
    · subst e
      rw [h2]
      omega
    · obtain ⟨j, rfl⟩ : ∃ j', j = j' + 1 := ⟨j - 1, by omega⟩
      rw [h3 j (by omega) (by omega)]
      have := q_line_lt tk n j (by omega)
      omega
theorem q_line_inj (tk : Nat → Nat) : ∀ (n i j : Nat), i < j → j < n → q_lineF tk n i ≠ q_lineF tk n j
  | 0, i, j, _, h => absurd h (by omega)
  | n + 1, i, j, hij, h => by
    rw [q_lineF]
    obtain ⟨p, hp, h1, h2, h3, -⟩ := q_insF_is tk n n (q_lineF tk n)
    rcases Nat.lt_trichotomy j p with e | e | e
    · rw [h1 j e, h1 i (by omega)]
      exact q_line_inj tk n i j hij (by omega)
    · subst e
      rw [h2, h1 i hij]
      have := q_line_lt tk n i (by omega)
      omega
    · obtain ⟨j, rfl⟩ : ∃ j', j = j' + 1 := ⟨j - 1, by omega⟩
      rw [h3 j (by omega) (by omega)]
      rcases Nat.lt_trichotomy i p with e2 | e2 | e2
      · rw [h1 i e2]
        exact q_line_inj tk n i j (by omega) (by omega)
      · subst e2
        rw [h2]
        have := q_line_lt tk n j (by omega)
        omega
      · obtain ⟨i, rfl⟩ : ∃ i', i = i' + 1 := ⟨i - 1, by omega⟩
        rw [h3 i (by omega) (by omega)]
        exact q_line_inj tk n i j (by omega) (by omega)
theorem q_line_onto (tk : Nat → Nat) {n a : Nat} (h : a < n) : ∃ i, i < n ∧ q_lineF tk n i = a := fb_onto (fun i hi => q_line_lt tk n i hi) (fun i j hij hj => q_line_inj tk n i j hij hj) h
theorem q_insF_cong {tk tk' : Nat → Nat} {k : Nat} (hk : tk k = tk' k) : ∀ (i : Nat) (L L' : Nat → Nat), (∀ j, j < i → tk (L j) = tk' (L' j)) → (∀ j, j ≠ i → L j = L' j) → (∀ j, q_insF tk k i L j = q_insF tk' k i L' j)
  | 0, L, L', _, h2, j => by
    rw [q_insF, q_insF]
    unfold va_up
    by_cases e : j = 0
    · rw [if_pos e, if_pos e]
    · rw [if_neg e, if_neg e]
      exact h2 j e
  | i + 1, L, L', h1, h2, j => by
    rw [q_insF, q_insF, h1 i (by omega), hk]
    by_cases h : tk' (L' i) ≤ tk' k
    · rw [if_pos h, if_pos h]
      unfold va_up
      by_cases e : j = i + 1
      · rw [if_pos e, if_pos e]
      · rw [if_neg e, if_neg e]
        exact h2 j e
    · rw [if_neg h, if_neg h]
      refine q_insF_cong hk i _ _ (fun j hj => ?_) (fun j hj => ?_) j
      · rw [va_up_ne _ _ (by omega), va_up_ne _ _ (by omega)]
        exact h1 j (by omega)
      · unfold va_up
        by_cases e : j = i + 1
        · rw [if_pos e, if_pos e]
          exact h2 i (by omega)
        · rw [if_neg e, if_neg e]
          exact h2 j e
theorem q_line_cong {tk tk' : Nat → Nat} : ∀ (n : Nat), (∀ i, i < n → tk i = tk' i) → q_lineF tk n = q_lineF tk' n
  | 0, _ => rfl
  | n + 1, h => by
    rw [q_lineF, q_lineF, q_line_cong n (fun i hi => h i (by omega))]
    funext j
    exact q_insF_cong (h n (by omega)) n _ _ (fun j hj => h _ (by have := q_line_lt tk' n j hj; omega)) (fun _ _ => rfl) j
/-! the loop of the program -/
theorem q_xwl {g : zSG} {w : zLS} {tk : Nat → Nat} {n : Nat} (hn : n < 30) (hT : ∀ x, x ≤ n → w.2 3 x = nI (tk x)) (ht : ∀ x, x ≤ n → tk x ≤ 100000) (h7 : w.1 7 = nI n) : ∀ (i N : Nat) (L : Nat → Nat) (R : Nat → Int32), i ≤ n → i < N → (∀ j, j ≤ n → j ≠ i → R j = nI (L j) ∧ L j ≤ n) →
    ∃ R', z_run zM_X0_write zc_X0_write zk_X0_write N 62 [(0, .inr (.inl (2, 0, 0))), (4, .inl (nI (tk n))), (5, .inl (nI n)), (6, .inl (nI i))] (q_O g 2 0 (w.1, va_up w.2 6 R)) (0, 0) = some (.inl (some (.inl (nI n))), q_O g 2 0 (upd w.1 7 (nI (n + 1)), va_up w.2 6 R')) ∧ ∀ j, j ≤ n → R' j = nI (q_insF tk n i L j) := by
  intro i
  induction i with
  | zero =>
    intro N L R hi hN hL
    obtain ⟨N, rfl⟩ : ∃ N', N = N' + 1 := ⟨N - 1, by omega⟩
    refine ⟨upd R 0 (nI n), ?_, fun j hj => ?_⟩
    · rw [zu_X0_write_62, if_pos (show nI 0 ≤ 0 by decide), if_pos (q_inb' (by omega) (by decide)), nI_clamp (by omega)]
      simp only [q_gI, q_gA, q_O_get, q_O_O, va_up_self, bx_uu, h7, nI_1]
    · rw [q_insF]
      by_cases e : j = 0
      · subst e
        rw [pk_us, va_up_self]
      · rw [pk_un e, va_up_ne _ _ e]
        exact (hL j hj e).1
  | succ i ih =>
    intro N L R hi hN hL
    obtain ⟨N, rfl⟩ : ∃ N', N = N' + 1 := ⟨N - 1, by omega⟩
    obtain ⟨r1, r2⟩ := hL i (by omega) (by omega)
    rw [zu_X0_write_62, if_neg (show ¬ nI (i + 1) ≤ 0 from nI_nle (by omega) (by omega)), nI_pred, if_pos (q_inb' (show i < 30 by omega) (by decide)), nI_clamp (show i < 2 ^ 31 by omega), q_O_get, show ((w.1, va_up w.2 6 R) : zLS).2 6 = R from rfl, show ((w.1, va_up w.2 6 R) : zLS).2 3 = w.2 3 from rfl, show ((w.1, va_up w.2 6 R) : zLS).1 7 = w.1 7 from rfl, r1, if_pos (q_inb' (show L i < 30 by omega) (by decide)), nI_clamp (show L i < 2 ^ 31 by omega), hT _ r2]
    have h1 := ht _ r2
    have h2 := ht n (Nat.le_refl _)
    by_cases h : tk (L i) ≤ tk n
    · rw [if_pos (nI_le h (by omega)), if_pos (q_inb' (show i + 1 < 30 by omega) (by decide)), nI_clamp (show i + 1 < 2 ^ 31 by omega)]
      refine ⟨upd R (i + 1) (nI n), ?_, fun j hj => ?_⟩
      · simp only [q_gI, q_gA, q_O_get, q_O_O, va_up_self, bx_uu, h7, nI_1]
      · rw [q_insF, if_pos h]
        by_cases e : j = i + 1
        · subst e
          rw [pk_us, va_up_self]
        · rw [pk_un e, va_up_ne _ _ e]
          exact (hL j hj e).1
    · rw [if_neg (nI_ge (by omega) (by omega)), if_pos (q_inb' (show i < 30 by omega) (by decide)), if_pos (q_inb' (show i + 1 < 30 by omega) (by decide)), nI_clamp (show i + 1 < 2 ^ 31 by omega), pk_m1]
      simp only [q_gA, q_O_get, q_O_O, va_up_self, bx_uu]
      obtain ⟨R', e1, e2⟩ := ih N (va_up L (i + 1) (L i)) (upd R (i + 1) (nI (L i))) (by omega) (by omega) (fun j hj hj2 => by
        by_cases e : j = i + 1
        · subst e
          rw [pk_us, va_up_self]
          exact ⟨rfl, r2⟩
        · rw [pk_un e, va_up_ne _ _ e]
          exact hL j hj e)
      refine ⟨R', e1, fun j hj => ?_⟩
      rw [q_insF, if_neg h]
      exact e2 j hj
/-! the loops of the reference -/
theorem q_mfl {g : zSG} {y : zLS} {tk : Nat → Nat} {k : Nat} (hn : k < 30) (hT : ∀ x, x ≤ k → y.2 22 x = nI (tk x)) (ht : ∀ x, x ≤ k → tk x ≤ 100000) (hy : y.1 35 = nI k) : ∀ (i N : Nat) (L : Nat → Nat) (R : Nat → Int32), i ≤ k → (∀ j, j ≤ k → j ≠ i → R j = nI (L j) ∧ L j ≤ k) →
    ∃ M R', N ≤ M ∧ (∀ j, j ≤ k → R' j = nI (q_insF tk k i L j)) ∧ z_run zM_X5_findLine zc_X5_findLine zk_X5_findLine (N + i + 1) 20 [(0, .inr (.inl (3, 0, 0))), (1, .inl (nI k)), (2, .inl (nI i))] (q_O g 3 0 (y.1, va_up y.2 25 R)) (0, 0) = z_run zM_X5_findLine zc_X5_findLine zk_X5_findLine M 7 [(0, .inr (.inl (3, 0, 0))), (1, .inl (nI (k + 1)))] (q_O g 3 0 (upd y.1 35 (nI (k + 1)), va_up y.2 25 R')) (0, 0) := by
  intro i
  induction i with
  | zero =>
    intro N L R hi hL
    rw [zu_X5_findLine_20, if_pos (show nI 0 ≤ 0 by decide), if_pos (q_inb' (by omega) (by decide)), nI_clamp (by omega), nI_1]
    simp only [q_gI, q_gA, q_O_get, q_O_O, va_up_self, bx_uu, hy, nI_1]
    refine ⟨N, upd R 0 (nI k), by omega, fun j hj => ?_, rfl⟩
    rw [q_insF]
    by_cases e : j = 0
    · subst e
      rw [pk_us, va_up_self]
    · rw [pk_un e, va_up_ne _ _ e]
      exact (hL j hj e).1
  | succ i ih =>
    intro N L R hi hL
    obtain ⟨r1, r2⟩ := hL i (by omega) (by omega)
    rw [zu_X5_findLine_20, if_neg (show ¬ nI (i + 1) ≤ 0 from nI_nle (by omega) (by omega)), nI_pred, if_pos (q_inb' (show i < 30 by omega) (by decide)), nI_clamp (show i < 2 ^ 31 by omega), q_O_get, show ((y.1, va_up y.2 25 R) : zLS).2 25 = R from rfl, show ((y.1, va_up y.2 25 R) : zLS).2 22 = y.2 22 from rfl, show ((y.1, va_up y.2 25 R) : zLS).1 35 = y.1 35 from rfl, r1, if_pos (q_inb' (show L i < 30 by omega) (by decide)), nI_clamp (show L i < 2 ^ 31 by omega), hT _ r2, if_pos (q_inb' (show k < 30 by omega) (by decide)), nI_clamp (show k < 2 ^ 31 by omega), hT k (Nat.le_refl _)]
    have h1 := ht _ r2
    have h2 := ht k (Nat.le_refl _)
    by_cases h : tk (L i) ≤ tk k
    · rw [if_pos (nI_le h (by omega)), if_pos (q_inb' (show i + 1 < 30 by omega) (by decide)), nI_clamp (show i + 1 < 2 ^ 31 by omega), nI_1]
      simp only [q_gI, q_gA, q_O_get, q_O_O, va_up_self, bx_uu, hy, nI_1]
      refine ⟨_, upd R (i + 1) (nI k), by omega, fun j hj => ?_, rfl⟩
      rw [q_insF, if_pos h]
      by_cases e : j = i + 1
      · subst e
        rw [pk_us, va_up_self]
      · rw [pk_un e, va_up_ne _ _ e]
        exact (hL j hj e).1
    · rw [if_neg (nI_ge (by omega) (by omega)), if_pos (q_inb' (show i < 30 by omega) (by decide)), if_pos (q_inb' (show i + 1 < 30 by omega) (by decide)), nI_clamp (show i + 1 < 2 ^ 31 by omega), pk_m1]
      simp only [q_gA, q_O_get, q_O_O, va_up_self, bx_uu]
      obtain ⟨M, R', hM, hR, e1⟩ := ih N (va_up L (i + 1) (L i)) (upd R (i + 1) (nI (L i))) (by omega) (fun j hj hj2 => by
        by_cases e : j = i + 1
        · subst e
          rw [pk_us, va_up_self]
          exact ⟨rfl, r2⟩
        · rw [pk_un e, va_up_ne _ _ e]
          exact hL j hj e)
      refine ⟨M, R', hM, fun j hj => ?_, e1⟩
      rw [q_insF, if_neg h]
      exact hR j hj
theorem q_mfl7 {g : zSG} {y : zLS} {tk : Nat → Nat} {n : Nat} (hn : n ≤ 30) (h16 : y.1 16 = nI n) (hT : ∀ x, x < n → y.2 22 x = nI (tk x)) (ht : ∀ x, x < n → tk x ≤ 100000) : ∀ (m k N : Nat) (R : Nat → Int32), k + m = n → 40 * m < N → (∀ j, j < k → R j = nI (q_lineF tk k j)) →
    ∃ R', z_run zM_X5_findLine zc_X5_findLine zk_X5_findLine N 7 [(0, .inr (.inl (3, 0, 0))), (1, .inl (nI k))] (q_O g 3 0 (upd y.1 35 (nI k), va_up y.2 25 R)) (0, 0) = some (.inl none, q_O g 3 0 (upd y.1 35 (nI n), va_up y.2 25 R')) ∧ ∀ j, j < n → R' j = nI (q_lineF tk n j) := by
  intro m
  induction m with
  | zero =>
    intro k N R hk hN hR
    obtain ⟨N, rfl⟩ : ∃ N', N = N' + 1 := ⟨N - 1, by omega⟩
    have e : k = n := by omega
    subst e
    refine ⟨R, ?_, hR⟩
    rw [zu_X5_findLine_7, q_O_get, show ((upd y.1 35 (nI k), va_up y.2 25 R) : zLS).1 16 = y.1 16 from rfl, h16, if_pos (nI_le (Nat.le_refl _) (by omega))]
  | succ m ih =>
    intro k N R hk hN hR
    obtain ⟨N, rfl⟩ : ∃ N', N = (N' + k + 1) + 1 := ⟨N - k - 2, by omega⟩
    rw [zu_X5_findLine_7, q_O_get, show ((upd y.1 35 (nI k), va_up y.2 25 R) : zLS).1 16 = y.1 16 from rfl, h16, if_neg (nI_ge (by omega) (by omega)), show ((upd y.1 35 (nI k), va_up y.2 25 R) : zLS).1 35 = nI k from rfl]
    obtain ⟨M, R1, hM, hR1, e1⟩ := q_mfl (g := g) (y := (upd y.1 35 (nI k), y.2)) (tk := tk) (k := k) (by omega) (fun x hx => hT x (by omega)) (fun x hx => ht x (by omega)) rfl k N (q_lineF tk k) R (Nat.le_refl _) (fun j hj hj2 => ⟨hR j (by omega), by have := q_line_lt tk k j (by omega); omega⟩)
    rw [show upd ((upd y.1 35 (nI k), y.2) : zLS).1 35 (nI (k + 1)) = upd y.1 35 (nI (k + 1)) from fa_upd_twice _ _ _ _] at e1
    obtain ⟨R2, e2, h2⟩ := ih (k + 1) M R1 (by omega) (by omega) (fun j hj => by rw [q_lineF]; exact hR1 j (by omega))
    exact ⟨R2, e1.trans e2, h2⟩
theorem q_mfind {P : qP} {n : Nat} {g : zSG} (hw : q_wP P n) (hb : q_mb P n (g 3 0)) : ∃ R, zF_X5_findLine [.inr (.inl (3, 0, 0))] g = some (.inl none, q_O g 3 0 (upd (g 3 0).1 35 (nI n), va_up (g 3 0).2 25 R)) ∧ ∀ j, j < n → R j = nI (q_lineF (q_tk P) n j) := by
  have hn := hw.1
  obtain ⟨R, e1, e2⟩ := q_mfl7 (g := g) (y := g 3 0) (tk := q_tk P) hw.1 hb.1 (fun x hx => (hb.2.1 x hx).2.2.2.1) (fun x hx => (hw.2.1 x hx).2.1) n 0 99999 ((g 3 0).2 25) (by omega) (by omega) (fun j hj => absurd hj (by omega))
  have e0 : q_O g 3 0 (upd (g 3 0).1 35 (nI 0), va_up (g 3 0).2 25 ((g 3 0).2 25)) = z_gI g 3 0 35 0 := by
    rw [q_up_self]
    rfl
  rw [e0] at e1
  exact ⟨R, ((ze_X5_findLine g).trans (zu_X5_findLine_0 99999 g)).trans e1, e2⟩
