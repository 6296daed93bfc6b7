/-! ===== pure part: never, feed ===== -/
theorem q_ex_6 (kept : Nat → Int32) (a b : Int32) {L : Nat} : ∀ (its : List qIt) (i k : Nat) (E : zLS), (∃ M, E.1 6 = nI M ∧ M < 2 ^ L) → i + its.length ≤ L → ∃ M, (q_ex kept a b i its k E).1 6 = nI M ∧ M < 2 ^ L
  | [], i, k, E, h, _ => by rw [q_ex]; exact h
  | it :: r, i, 0, E, h, hl => by
    simp only [List.length_cons] at hl
    rw [q_ex]
    refine q_ex_6 kept a b r _ _ _ ?_ (by omega)
    obtain ⟨M, e, hM⟩ := h
    refine ⟨M ||| 2 ^ i, ?_, Nat.or_lt_two_pow hM (Nat.pow_lt_pow_right (by decide) (by omega))⟩
    rw [q_act_6]
    show (q_ops kept a b it.2.1 [] E).2.1 6 ||| nI (2 ^ i) = _
    rw [(q_ops_keep kept a b it.2.1 [] E).1 6 (by decide), e, fa_or]
  | it :: r, i, k + 1, E, h, hl => by
    simp only [List.length_cons] at hl
    rw [q_ex]
    exact q_ex_6 kept a b r _ _ _ h (by omega)
theorem q_runF_6 {P : qP} {v : Nat} {L : Nat → Nat} {sel : Nat → Bool} {S : qRS} {kd : Nat} (h : ∃ M, S.1.1 (10 + kd) = nI M ∧ M < 2 ^ (q_its P (v * 4 + kd)).length) : ∀ m, ∃ M, (q_runF P v L sel m S).1.1 (10 + kd) = nI M ∧ M < 2 ^ (q_its P (v * 4 + kd)).length
  | 0 => h
  | m + 1 => by
    have ih := q_runF_6 (P := P) (v := v) (L := L) (sel := sel) h m
    rw [q_runF]
    split
    · by_cases e : kd = q_kd P (L m)
      · subst e
        obtain ⟨M, e1, e2⟩ := q_ex_6 (q_kp P) (q_arg P (q_runF P v L sel m S).2 (L m)) (q_fb P (L m)) (L := (q_its P (v * 4 + q_kd P (L m))).length) (q_its P (v * 4 + q_kd P (L m))) 0 0 (q_E0 ((q_runF P v L sel m S).1.1 0) ((q_runF P v L sel m S).1.1 1) ((q_runF P v L sel m S).1.1 (10 + q_kd P (L m))) ((q_runF P v L sel m S).1.2 0)) ih (by omega)
        exact ⟨M, (pk_us).trans e1, e2⟩
      · obtain ⟨M, e1, e2⟩ := ih
        refine ⟨M, ?_, e2⟩
        show upd (upd (upd _ 0 _) 1 _) (10 + q_kd P (L m)) _ (10 + kd) = _
        rw [pk_un (by omega), pk_un (by omega), pk_un (by omega)]
        exact e1
    · exact ih
theorem q_mnv {g : zSG} {t n : Nat} (ht : t < 8) (hn : n ≤ 30) (h15 : (g 3 0).2 15 t = nI n) : ∀ (m k N : Nat) (a : Int32), k + m = n → m < N → z_run zM_X5_never zc_X5_never zk_X5_never N 54 [(0, .inr (.inl (3, 0, 0))), (3, .inl (nI t)), (4, .inl a), (5, .inl (nI k))] g (0, 0) = some (.inl (some (.inl (q_ac (fun j => if (g 3 0).2 33 (30 * t + j) = 0 then 1 else 0) m k a))), g) := by
  intro m
  induction m with
  | zero =>
    intro k N a hk hN
    obtain ⟨N, rfl⟩ : ∃ N', N = N' + 1 := ⟨N - 1, by omega⟩
    rw [zu_X5_never_54, if_pos (q_inb' ht (by decide)), nI_clamp (by omega), h15, if_pos (nI_le (by omega) (by omega)), q_ac]
  | succ m ih =>
    intro k N a hk hN
    obtain ⟨N, rfl⟩ : ∃ N', N = N' + 1 := ⟨N - 1, by omega⟩
    have e3 : (30 : Int32) * nI t + nI k = nI (30 * t + k) := by rw [show (30 : Int32) = nI 30 from rfl, pk_mul, nI_add]
    rw [zu_X5_never_54, if_pos (q_inb' ht (by decide)), nI_clamp (by omega), h15, if_neg (nI_ge (by omega) (by omega)), e3, if_pos (q_inb' (by omega) (by decide)), nI_clamp (by omega), nI_1, q_ac, ih (k + 1) N (a + 0) (by omega) (by omega), ih (k + 1) N (a + 1) (by omega) (by omega)]
    by_cases e : (g 3 0).2 33 (30 * t + k) = 0
    · simp only [if_pos e]
    · simp only [if_neg e]
theorem q_s_never (x1 x2 : Int32) : q_sim q_eI zF_X4_never zF_X5_never [.inl x1, .inl x2] := by
  intro g hg
  have hg' := hg
  obtain ⟨P, n, tp, h⟩ := hg
  have hn := h.1.1
  rcases q_ix x1 (n := 2) (by decide) with ⟨v, hv, rfl⟩ | hv2
  · rcases q_ix x2 (n := 4) (by decide) with ⟨kd, hk, rfl⟩ | hk2
    · obtain ⟨g1, e1, hI1, hf, k3, -⟩ := q_brg h
      obtain ⟨y', e2, hr, ht, hI2, -⟩ := q_rall (id := 0) hv (q_INV_t (v := 0) hI1) (q_t0 _ _)
      have hx := q_fxv hv hf
      have ht8 : v * 4 + kd < 8 := by omega
      have hlen := (hI1.1.2.2.1 _ ht8).2.1
      obtain ⟨M, m1, m2⟩ := q_runF_6 (P := P) (v := v) (L := q_lineF (q_tk P) n) (sel := fun _ => true) (S := q_S0 P 0) (kd := kd) ⟨0, by show upd (fun _ => (0 : Int32)) 0 0 (10 + kd) = nI 0; rw [pk_un (by omega)]; rfl, Nat.two_pow_pos _⟩ n
      obtain ⟨M', n1, n2, n3⟩ := hr.2.1 kd hk
      have hM30 : M < 2 ^ 30 := Nat.lt_of_lt_of_le m2 (Nat.pow_le_pow_right (by decide) hlen)
      have eM : M' = M := (nI_eq (by omega) (by omega)).mp (n2.symm.trans m1)
      subst eM
      have h7 := hx.2.1 kd hk
      rw [show (q_RA P n v 0).1.1 (10 + kd) = nI M' from m1] at h7
      have ec := fb_ct_not (fun i => M'.testBit i) (q_its P (v * 4 + kd)).length
      have ec' : (q_its P (v * 4 + kd)).length - fb_ct (fun i => M'.testBit i) (q_its P (v * 4 + kd)).length = fb_ct (fun i => !M'.testBit i) (q_its P (v * 4 + kd)).length := by omega
      have e4 : nI v * (4 : Int32) + nI kd = nI (v * 4 + kd) := by rw [show (4 : Int32) = nI 4 from rfl, pk_mul, nI_add]
      have e4' : (4 : Int32) * nI v + nI kd = nI (v * 4 + kd) := by rw [show (4 : Int32) = nI 4 from rfl, pk_mul, nI_add, Nat.mul_comm]
      refine ⟨.inl (some (.inl (nI (fb_ct (fun i => !M'.testBit i) (q_its P (v * 4 + kd)).length)))), g1, nI (fb_ct (fun i => !M'.testBit i) (q_its P (v * 4 + kd)).length), _, ?_, ?_, ⟨?_, rfl⟩, P, n, tp, hI2⟩
      · rw [(ze_X4_never (nI v) (nI kd) g).trans (zu_X4_never_0 99999 (nI v) (nI kd) g), q_ckV_ok hv, q_bV, q_ckK_ok hk, q_bV, e1, q_bV, if_pos (q_inb' hv (by decide)), nI_clamp (by omega), if_pos (by omega), if_pos (by omega), if_pos (q_inb' hk (by decide)), nI_clamp (by omega), h7, q_cnt (by omega), q_bI, e4, if_pos (q_inb' ht8 (by decide)), nI_clamp (by omega), if_pos ht8, (hI1.2.1.2.2.1 _ ht8).2.1, q_n1_split (by omega) m2, pk_sub (by omega), ec']
      · rw [(ze_X5_never (nI v) (nI kd) g1).trans (zu_X5_never_0 99999 (nI v) (nI kd) g1), q_isV_ok hv, q_bI, if_neg (by decide), q_wn_ok (hi := (3 : Int32)) (m := 3) rfl (by omega) (by decide), q_bI, if_neg (by decide), q_may1 (q_t0 _ _), q_bI, if_neg (by decide), zu_X5_never_36, e2, q_bV, e4']
        have hb15 := (hI2.2.2.2.2.1.2.2.2.1 _ ht8).2.1
        refine (q_mnv ht8 hlen hb15 (q_its P (v * 4 + kd)).length 0 _ 0 (by omega) (by omega)).trans ?_
        rw [show (0 : Int32) = nI (fb_ct (fun i => !M'.testBit i) 0) from rfl, q_ac_ct (p := fun i => !M'.testBit i) _ 0 (fun j _ hj => ?_), Nat.zero_add]
        rw [q_O_get, n3 j (by omega)]
        cases M'.testBit j <;> rfl
      · rw [q_O_get]
        exact ht
    · refine q_sim_bad (b := 0) (e := 0) (c := 1) hg' ?_ ?_ (by decide) rfl
      · rw [(ze_X4_never (nI v) x2 g).trans (zu_X4_never_0 99999 (nI v) x2 g), q_ckV_ok hv, q_bV, q_ckK_bad hk2, q_bVx]
      · rw [(ze_X5_never (nI v) x2 g).trans (zu_X5_never_0 99999 (nI v) x2 g), q_isV_ok hv, q_bI, if_neg (by decide), q_wn_bad (hi := (3 : Int32)) (m := 3) rfl hk2 (by decide), q_bI, if_pos rfl, q_may0 (q_t0 _ _) (by decide), q_bI, if_pos rfl, q_tt]
  · refine q_sim_bad (b := 0) (e := 0) (c := 1) hg' ?_ ?_ (by decide) rfl
    · rw [(ze_X4_never x1 x2 g).trans (zu_X4_never_0 99999 x1 x2 g), q_ckV_bad hv2, q_bVx]
    · rw [(ze_X5_never x1 x2 g).trans (zu_X5_never_0 99999 x1 x2 g), q_isV_bad hv2, q_bI, if_pos rfl, q_may0 (q_t0 _ _) (by decide), q_bI, if_pos rfl, q_tt]
/-! feed -/
def q_bt (x : Int32) (s : Nat) : Int32 := ((x.toUInt32 >>> ((nI s).toUInt32 &&& Int32.toUInt32 31)).toInt32) &&& 255
def q_bs (x : Int32) (s : Nat) : Int32 := (x >>> (nI s &&& 31)) &&& 255
theorem q_bts (x : Int32) {s : Nat} (hs : s ≤ 24) : q_bt x s = q_bs x s := by
  refine b_ext (fun i hi => ?_)
  unfold q_bt q_bs
  rw [b_and, b_and, b_ushr s (by omega), b_sshr s (by omega) x hi, b_255]
  by_cases h : i < 8
  · rw [if_pos (by omega)]
  · rw [decide_eq_false h, Bool.and_false, Bool.and_false]
theorem q_bt_b (x : Int32) (s : Nat) : ∃ b, b < 256 ∧ q_bt x s = nI b := pk_andE _ 8 (by decide)
theorem q_xlay {g : zSG} {t : Nat} (x : Int32) (ht : t + 4 ≤ 400) (h : (g 0 0).1 12 = nI t) : ∃ T, zF_X4_layNumber [.inr (.inl (0, 0, 0)), .inl x] g = some (.inl none, q_O g 0 0 (upd (g 0 0).1 12 (nI (t + 4)), va_up (g 0 0).2 0 T)) ∧ (∀ j, j < 4 → T (t + j) = q_bt x (24 - 8 * j)) ∧ ∀ j, j < t → T j = (g 0 0).2 0 j := by
  refine ⟨upd (upd (upd (upd ((g 0 0).2 0) t (q_bt x 24)) (t + 1) (q_bt x 16)) (t + 2) (q_bt x 8)) (t + 3) (q_bt x 0), ?_, fun j hj => ?_, fun j hj => ?_⟩
  · rw [(ze_X4_layNumber x g).trans (zu_X4_layNumber_0 99999 x g)]
    rw [zu_X4_layNumber_3, if_neg (by decide), h, if_neg (show ¬ (400 : Int32) ≤ nI t from nI_ge (b := 400) (by omega) (by decide)), if_pos (q_inb' (show t < 400 by omega) (by decide)), nI_clamp (by omega), nI_1]
    simp only [q_gI, q_gA, q_O_get, q_O_O]
    rw [show (24 : Int32) + -8 = 16 from rfl, zu_X4_layNumber_3, if_neg (by decide)]
    simp only [q_gI, q_gA, q_O_get, q_O_O, pk_us, va_up_self, bx_uu, fa_upd_twice]
    rw [if_neg (show ¬ (400 : Int32) ≤ nI (t + 1) from nI_ge (b := 400) (by omega) (by decide)), if_pos (q_inb' (show t + 1 < 400 by omega) (by decide)), nI_clamp (by omega), nI_1, show (16 : Int32) + -8 = 8 from rfl, zu_X4_layNumber_3, if_neg (by decide)]
    simp only [q_gI, q_gA, q_O_get, q_O_O, pk_us, va_up_self, bx_uu, fa_upd_twice]
    rw [if_neg (show ¬ (400 : Int32) ≤ nI (t + 1 + 1) from nI_ge (b := 400) (by omega) (by decide)), if_pos (q_inb' (show t + 1 + 1 < 400 by omega) (by decide)), nI_clamp (by omega), nI_1, show (8 : Int32) + -8 = 0 from rfl, zu_X4_layNumber_3, if_neg (by decide)]
    simp only [q_gI, q_gA, q_O_get, q_O_O, pk_us, va_up_self, bx_uu, fa_upd_twice]
    rw [if_neg (show ¬ (400 : Int32) ≤ nI (t + 1 + 1 + 1) from nI_ge (b := 400) (by omega) (by decide)), if_pos (q_inb' (show t + 1 + 1 + 1 < 400 by omega) (by decide)), nI_clamp (by omega), nI_1, show (0 : Int32) + -8 = -8 from rfl, zu_X4_layNumber_3, if_pos (by decide)]
    try simp only [q_gI, q_gA, q_O_get, q_O_O, pk_us, va_up_self, bx_uu, fa_upd_twice]
    rfl
  · rcases (show j = 0 ∨ j = 1 ∨ j = 2 ∨ j = 3 by omega) with rfl | rfl | rfl | rfl
    · rw [pk_un (by omega), pk_un (by omega), pk_un (by omega)]
      first | exact pk_us | rfl
    · rw [pk_un (by omega), pk_un (by omega)]
      first | exact pk_us | rfl
    · rw [pk_un (by omega)]
      first | exact pk_us | rfl
    · exact pk_us
  · rw [pk_un (by omega), pk_un (by omega), pk_un (by omega), pk_un (by omega)]
theorem q_mfeed {g : zSG} {y : zLS} {t : Nat} (A : Nat → Int32) (ht : t + 20 ≤ 400) : ∀ (m k N : Nat) (T : Nat → Int32), k + m = 20 → m < N → (∀ j, j < k → T (t + j) = q_bs (A (j / 4)) (24 - 8 * (j % 4))) → (∀ j, j < t → T j = y.2 9 j) →
    ∃ T', z_run zM_X5_feed zc_X5_feed zk_X5_feed N 23 [(0, .inr (.inl (3, 0, 0))), (1, .inl (A 0)), (2, .inl (A 1)), (3, .inl (A 2)), (4, .inl (A 3)), (5, .inl (A 4)), (6, .inl (nI k))] (q_O g 3 0 (upd y.1 1 (nI (t + k)), va_up y.2 9 T)) (0, 0) = some (.inl (some (.inl (nI (t + 20)))), q_O g 3 0 (upd y.1 1 (nI (t + 20)), va_up y.2 9 T')) ∧ (∀ j, j < 20 → T' (t + j) = q_bs (A (j / 4)) (24 - 8 * (j % 4))) ∧ ∀ j, j < t → T' j = y.2 9 j := by
  intro m
  induction m with
  | zero =>
    intro k N T hk hN hT hT2
    obtain ⟨N, rfl⟩ : ∃ N', N = N' + 1 := ⟨N - 1, by omega⟩
    have e : k = 20 := by omega
    subst e
    refine ⟨T, ?_, hT, hT2⟩
    rw [zu_X5_feed_23, if_pos (show (20 : Int32) ≤ nI 20 by decide), q_O_get, show ((upd y.1 1 (nI (t + 20)), va_up y.2 9 T) : zLS).1 1 = nI (t + 20) from rfl]
  | succ m ih =>
    intro k N T hk hN hT hT2
    obtain ⟨N, rfl⟩ : ∃ N', N = N' + 1 := ⟨N - 1, by omega⟩
    have er : nI k - nI k / (4 : Int32) * (4 : Int32) = nI (k % 4) := pk_rem (d := 4) (by omega) (by decide) (by decide)
    have es : (24 : Int32) - (8 : Int32) * nI (k % 4) = nI (24 - 8 * (k % 4)) := by
      rw [show (8 : Int32) = nI 8 from rfl, pk_mul, show (24 : Int32) = nI 24 from rfl, pk_sub (by omega)]
    have key : ∀ v, v = A (k / 4) → ∃ T', z_run zM_X5_feed zc_X5_feed zk_X5_feed N 23 [(0, .inr (.inl (3, 0, 0))), (1, .inl (A 0)), (2, .inl (A 1)), (3, .inl (A 2)), (4, .inl (A 3)), (5, .inl (A 4)), (6, .inl (nI (k + 1)))] (q_O g 3 0 (upd y.1 1 (nI (t + k + 1)), va_up y.2 9 (upd T (t + k) ((v >>> (nI (24 - 8 * (k % 4)) &&& 31)) &&& 255)))) (0, 0) = some (.inl (some (.inl (nI (t + 20)))), q_O g 3 0 (upd y.1 1 (nI (t + 20)), va_up y.2 9 T')) ∧ (∀ j, j < 20 → T' (t + j) = q_bs (A (j / 4)) (24 - 8 * (j % 4))) ∧ ∀ j, j < t → T' j = y.2 9 j := by
      rintro v rfl
      refine ih (k + 1) N _ (by omega) (by omega) (fun j hj => ?_) (fun j hj => ?_)
      · by_cases e : j = k
        · subst e
          first | exact pk_us | rfl
        · rw [pk_un (by omega)]
          exact hT j (by omega)
      · rw [pk_un (by omega)]
        exact hT2 j hj
    rw [zu_X5_feed_23, if_neg (show ¬ (20 : Int32) ≤ nI k from nI_ge (b := 20) (by omega) (by decide))]
    simp only [q_gI, q_gA, q_O_get, q_O_O, pk_us, va_up_self, bx_uu, fa_upd_twice, if_neg (show ¬ (4 : Int32) = 0 by decide), if_pos (q_inb' (show t + k < 400 by omega) (by decide)), nI_clamp (show t + k < 2 ^ 31 by omega), nI_1, er, es]
    by_cases h4 : 4 ≤ k
    · rw [if_pos (show (4 : Int32) ≤ nI k from nI_le (a := 4) h4 (by omega))]
      by_cases h8 : 8 ≤ k
      · rw [if_pos (show (8 : Int32) ≤ nI k from nI_le (a := 8) h8 (by omega))]
        by_cases h12 : 12 ≤ k
        · rw [if_pos (show (12 : Int32) ≤ nI k from nI_le (a := 12) h12 (by omega))]
          by_cases h16 : 16 ≤ k
          · rw [if_pos (show (16 : Int32) ≤ nI k from nI_le (a := 16) h16 (by omega))]
            exact key _ (by rw [show k / 4 = 4 by omega])
          · rw [if_neg (show ¬ (16 : Int32) ≤ nI k from nI_ge (b := 16) (by omega) (by decide))]
            exact key _ (by rw [show k / 4 = 3 by omega])
        · rw [if_neg (show ¬ (12 : Int32) ≤ nI k from nI_ge (b := 12) (by omega) (by decide))]
          exact key _ (by rw [show k / 4 = 2 by omega])
      · rw [if_neg (show ¬ (8 : Int32) ≤ nI k from nI_ge (b := 8) (by omega) (by decide))]
        exact key _ (by rw [show k / 4 = 1 by omega])
    · rw [if_neg (show ¬ (4 : Int32) ≤ nI k from nI_ge (b := 4) (by omega) (by decide))]
      exact key _ (by rw [show k / 4 = 0 by omega])
theorem q_s_feed (x1 x2 x3 x4 x5 : Int32) : q_sim (fun _ => 0) zF_X4_feed zF_X5_feed [.inl x1, .inl x2, .inl x3, .inl x4, .inl x5] := by
  intro g hg
  obtain ⟨P, n, tp, h⟩ := hg
  have h0 := h
  obtain ⟨h1, h2, h3, h4, h5, h6, ⟨t0, t1, t2, t3⟩, h8, h9⟩ := h
  have ea : nI tp + (20 : Int32) = nI (tp + 20) := by rw [show (20 : Int32) = nI 20 from rfl, nI_add]
  by_cases hf : tp + 20 ≤ 400
  · obtain ⟨T1, e1, a1, c1⟩ := q_xlay (g := g) x1 (show tp + 4 ≤ 400 by omega) t1
    obtain ⟨T2, e2, a2, c2⟩ := q_xlay (g := q_O g 0 0 (upd (g 0 0).1 12 (nI (tp + 4)), va_up (g 0 0).2 0 T1)) (t := tp + 4) x2 (by omega) (by rw [q_O_get]; first | exact pk_us | rfl)
    rw [q_O_get, q_O_O] at e2
    rw [q_O_get] at c2
    dsimp only at e2 c2
    rw [fa_upd_twice, bx_uu] at e2
    rw [va_up_self] at c2
    obtain ⟨T3, e3, a3, c3⟩ := q_xlay (g := q_O g 0 0 (upd (g 0 0).1 12 (nI (tp + 4 + 4)), va_up (g 0 0).2 0 T2)) (t := tp + 4 + 4) x3 (by omega) (by rw [q_O_get]; first | exact pk_us | rfl)
    rw [q_O_get, q_O_O] at e3
    rw [q_O_get] at c3
    dsimp only at e3 c3
    rw [fa_upd_twice, bx_uu] at e3
    rw [va_up_self] at c3
    obtain ⟨T4, e4, a4, c4⟩ := q_xlay (g := q_O g 0 0 (upd (g 0 0).1 12 (nI (tp + 4 + 4 + 4)), va_up (g 0 0).2 0 T3)) (t := tp + 4 + 4 + 4) x4 (by omega) (by rw [q_O_get]; first | exact pk_us | rfl)
    rw [q_O_get, q_O_O] at e4
    rw [q_O_get] at c4
    dsimp only at e4 c4
    rw [fa_upd_twice, bx_uu] at e4
    rw [va_up_self] at c4
    obtain ⟨T5, e5, a5, c5⟩ := q_xlay (g := q_O g 0 0 (upd (g 0 0).1 12 (nI (tp + 4 + 4 + 4 + 4)), va_up (g 0 0).2 0 T4)) (t := tp + 4 + 4 + 4 + 4) x5 (by omega) (by rw [q_O_get]; first | exact pk_us | rfl)
    rw [q_O_get, q_O_O] at e5
    rw [q_O_get] at c5
    dsimp only at e5 c5
    rw [fa_upd_twice, bx_uu, show tp + 4 + 4 + 4 + 4 + 4 = tp + 20 by omega] at e5
    rw [va_up_self] at c5
    obtain ⟨U, eU, aU, cU⟩ := q_mfeed (g := q_O g 0 0 (upd (g 0 0).1 12 (nI (tp + 20)), va_up (g 0 0).2 0 T5)) (y := (upd (g 3 0).1 0 0, (g 3 0).2)) (t := tp) (fun j => if j = 0 then x1 else if j = 1 then x2 else if j = 2 then x3 else if j = 3 then x4 else x5) hf 20 0 99999 ((g 3 0).2 9) (by omega) (by omega) (fun j hj => absurd hj (by omega)) (fun j hj => rfl)
    refine ⟨.inl (some (.inl (nI (tp + 20)))), q_O g 0 0 (upd (g 0 0).1 12 (nI (tp + 20)), va_up (g 0 0).2 0 T5), nI (tp + 20), q_O (q_O g 0 0 (upd (g 0 0).1 12 (nI (tp + 20)), va_up (g 0 0).2 0 T5)) 3 0 (upd (upd (g 3 0).1 0 0) 1 (nI (tp + 20)), va_up (g 3 0).2 9 U), ?_, ?_, ⟨?_, rfl⟩, P, n, tp + 20, ?_⟩
    · rw [(ze_X4_feed x1 x2 x3 x4 x5 g).trans (zu_X4_feed_0 99999 x1 x2 x3 x4 x5 g), t1, ea, if_pos (show nI (tp + 20) ≤ (400 : Int32) from nI_le (b := 400) hf (by decide)), e1, q_bV, e2, q_bV, e3, q_bV, e4, q_bV, e5, q_bV, q_O_get]
      dsimp only
      rw [pk_us]
    · refine Eq.trans ?_ eU
      rw [(ze_X5_feed x1 x2 x3 x4 x5 _).trans (zu_X5_feed_0 99999 x1 x2 x3 x4 x5 _), q_O_c _ _ _ (show (3 : Nat) ≠ 0 by decide), t2, ea, if_pos (show nI (tp + 20) ≤ (400 : Int32) from nI_le (b := 400) hf (by decide))]
      dsimp only
      rw [q_up_self, show upd (upd (g 3 0).1 0 0) 1 (nI (tp + 0)) = upd (g 3 0).1 0 0 from fa_upd_same ((pk_un (by decide)).trans t2)]
      rfl
    · rw [q_O_get]
      rfl
    · refine ⟨h1, h2, h3, h4, h5, h6, ⟨by omega, rfl, rfl, fun j hj => ?_⟩, h8, h9⟩
      by_cases hj2 : j < tp
      · obtain ⟨b, hb, d1, d2⟩ := t3 j hj2
        refine ⟨b, hb, ?_, (cU j hj2).trans d2⟩
        show T5 j = nI b
        rw [c5 j (by omega), c4 j (by omega), c3 j (by omega), c2 j (by omega), c1 j hj2]
        exact d1
      · obtain ⟨i, rfl⟩ : ∃ i, j = tp + i := ⟨j - tp, by omega⟩
        have hi : i < 20 := by omega
        have hu := aU i hi
        have hb : ∀ x : Int32, q_bs x (24 - 8 * (i % 4)) = q_bt x (24 - 8 * (i % 4)) := fun x => (q_bts x (by omega)).symm
        rw [hb] at hu
        have hx : T5 (tp + i) = q_bt ((fun j => if j = 0 then x1 else if j = 1 then x2 else if j = 2 then x3 else if j = 3 then x4 else x5) (i / 4)) (24 - 8 * (i % 4)) := by
          rcases (show i / 4 = 0 ∨ i / 4 = 1 ∨ i / 4 = 2 ∨ i / 4 = 3 ∨ i / 4 = 4 by omega) with e | e | e | e | e
          · rw [e, c5 _ (by omega), c4 _ (by omega), c3 _ (by omega), c2 _ (by omega), show tp + i = tp + i % 4 by omega]
            exact a1 _ (by omega)
          · rw [e, c5 _ (by omega), c4 _ (by omega), c3 _ (by omega), show tp + i = tp + 4 + i % 4 by omega]
            exact a2 _ (by omega)
          · rw [e, c5 _ (by omega), c4 _ (by omega), show tp + i = tp + 4 + 4 + i % 4 by omega]
            exact a3 _ (by omega)
          · rw [e, c5 _ (by omega), show tp + i = tp + 4 + 4 + 4 + i % 4 by omega]
            exact a4 _ (by omega)
          · rw [e, show tp + i = tp + 4 + 4 + 4 + 4 + i % 4 by omega]
            exact a5 _ (by omega)
        obtain ⟨b, hb2, d⟩ := q_bt_b ((fun j => if j = 0 then x1 else if j = 1 then x2 else if j = 2 then x3 else if j = 3 then x4 else x5) (i / 4)) (24 - 8 * (i % 4))
        exact ⟨b, hb2, hx.trans d, hu.trans d⟩
  · have hc : ¬ nI (tp + 20) ≤ (400 : Int32) := nI_ge (b := tp + 20) (a := 400) (by omega) (by omega)
    refine ⟨.inl (some (.inl (-1))), g, -1, z_gI g 3 0 0 0, ?_, ?_, ⟨q_t0 _ _, rfl⟩, P, n, tp, q_INV_t h0⟩
    · rw [(ze_X4_feed x1 x2 x3 x4 x5 g).trans (zu_X4_feed_0 99999 x1 x2 x3 x4 x5 g), t1, ea, if_neg hc]
    · rw [(ze_X5_feed x1 x2 x3 x4 x5 g).trans (zu_X5_feed_0 99999 x1 x2 x3 x4 x5 g), t2, ea, if_neg hc]
