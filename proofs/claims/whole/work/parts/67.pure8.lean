/-! ===== pure part: a run begins ===== -/
def q_S0 (P : qP) (id : Int32) : qRS := ((upd (fun _ => 0) 0 id, va_up (fun _ _ => 0) 0 (q_bg P)), fun _ => none)
theorem q_acp {g : zSG} {c1 i1 f1 c2 i2 f2 m : Nat} {x : Int32} (h : (Nat.blt c1 5 && Nat.blt c2 5 && Nat.blt 0 (f1 + 1) && Nat.blt 0 (f2 + 1) && Nat.beq (z_ak c1 f1).1 0 && Nat.beq (z_ak c2 f2).1 0) = true) (h1 : i1 < z_ni c1) (h2 : i2 < z_ni c2) (hx : x = nI m) (hm : m ≤ z_alen g c1 i1 f1) (hm2 : m ≤ z_alen g c2 i2 f2) (hb : m < 2 ^ 31) : zF_acp [.inr (.inl (c1, i1, f1 + 1)), .inl (0 : Int32), .inr (.inl (c2, i2, f2 + 1)), .inl (0 : Int32), .inl x] g = some (.inl none, z_gA g c2 i2 f2 (va_cpy ((g c1 i1).2 f1) ((g c2 i2).2 f2) 0 0 m)) := by
  subst hx
  have z0 : (0 : Int32).toNatClampNeg = 0 := by decide
  unfold zF_acp
  simp only [Nat.add_sub_cancel, h, cond_true, z0, nI_clamp hb, Nat.zero_add]
  rw [if_pos ⟨h1, h2, by decide, by decide, nI_pos hb, hm, hm2⟩]
theorem q_acp1 {r : Nat} (hr : r < 4) (g : zSG) : zF_acp [.inr (.inl (0, 0, 2)), .inl (0 : Int32), .inr (.inl (4, r, 1)), .inl (0 : Int32), .inl (8 : Int32)] g = some (.inl none, z_gA g 4 r 0 (va_cpy ((g 0 0).2 1) ((g 4 r).2 0) 0 0 8)) := q_acp (c1 := 0) (i1 := 0) (f1 := 1) (c2 := 4) (i2 := r) (f2 := 0) (m := 8) rfl (by decide) hr rfl (Nat.le_of_eq rfl) (Nat.le_of_eq rfl) (by decide)
theorem q_acp2 {r : Nat} (hr : r < 4) (g : zSG) : zF_acp [.inr (.inl (0, 0, 3)), .inl (0 : Int32), .inr (.inl (4, r, 10)), .inl (0 : Int32), .inl (16 : Int32)] g = some (.inl none, z_gA g 4 r 9 (va_cpy ((g 0 0).2 2) ((g 4 r).2 9) 0 0 16)) := q_acp (c1 := 0) (i1 := 0) (f1 := 2) (c2 := 4) (i2 := r) (f2 := 9) (m := 16) rfl (by decide) hr rfl (Nat.le_of_eq rfl) (Nat.le_of_eq rfl) (by decide)
theorem q_acp3 {r : Nat} (hr : r < 4) (g : zSG) : zF_acp [.inr (.inl (4, r, 1)), .inl (0 : Int32), .inr (.inl (4, r, 11)), .inl (0 : Int32), .inl (8 : Int32)] g = some (.inl none, z_gA g 4 r 10 (va_cpy ((g 4 r).2 0) ((g 4 r).2 10) 0 0 8)) := q_acp (c1 := 4) (i1 := r) (f1 := 0) (c2 := 4) (i2 := r) (f2 := 10) (m := 8) rfl hr hr rfl (Nat.le_of_eq rfl) (Nat.le_of_eq rfl) (by decide)
theorem q_acp4 {r : Nat} (hr : r < 4) (g : zSG) : zF_acp [.inr (.inl (4, r, 11)), .inl (0 : Int32), .inr (.inl (4, r, 1)), .inl (0 : Int32), .inl (8 : Int32)] g = some (.inl none, z_gA g 4 r 0 (va_cpy ((g 4 r).2 10) ((g 4 r).2 0) 0 0 8)) := q_acp (c1 := 4) (i1 := r) (f1 := 10) (c2 := 4) (i2 := r) (f2 := 0) (m := 8) rfl hr hr rfl (Nat.le_of_eq rfl) (Nat.le_of_eq rfl) (by decide)
theorem q_cpy {f w : Nat → Int32} {m : Nat} (hf : q_z f m) (hw : q_z w m) : va_cpy f w 0 0 m = f := by
  funext k
  by_cases h : k < m
  · rw [pk_cpy_in (by omega) (by omega)]
    congr 1
    omega
  · rw [pk_cpy_out (by omega), hf k (by omega), hw k (by omega)]
theorem q_xfill5 {g : zSG} {r : Nat} {y : zLS} (hr : r < 4) : ∀ (m k N : Nat) (f : Nat → Int32), k + m = 4 → m < N → (∀ j, j < k → f j = 0) →
    ∃ f', z_run zM_J7_fill_53178 zc_J7_fill_53178 zk_J7_fill_53178 N 5 [(0, .inr (.inl (4, r, 8))), (1, .inl (0 : Int32)), (2, .inl (nI k)), (3, .inl (4 : Int32))] (q_O g 4 r (y.1, va_up y.2 7 f)) (0, 0) = some (.inl none, q_O g 4 r (y.1, va_up y.2 7 f')) ∧ ∀ j, j < 4 → f' j = 0 := by
  intro m
  induction m with
  | zero =>
    intro k N f hk hN hf
    obtain ⟨N, rfl⟩ : ∃ N', N = N' + 1 := ⟨N - 1, by omega⟩
    refine ⟨f, ?_, fun j hj => hf j (by omega)⟩
    rw [zu_J7_fill_53178_5 _ _ _ _ r hr, if_pos (show (4 : Int32) ≤ nI k from nI_le (a := 4) (by omega) (by omega))]
  | succ m ih =>
    intro k N f hk hN hf
    obtain ⟨N, rfl⟩ : ∃ N', N = N' + 1 := ⟨N - 1, by omega⟩
    rw [zu_J7_fill_53178_5 _ _ _ _ r hr, if_neg (show ¬ (4 : Int32) ≤ nI k from nI_ge (b := 4) (by omega) (by decide)), if_pos (q_inb' (show k < 4 by omega) (by decide)), nI_clamp (by omega), nI_1]
    simp only [q_gA, q_O_get, q_O_O, va_up_self, bx_uu]
    refine ih (k + 1) N (upd f k 0) (by omega) (by omega) (fun j hj => ?_)
    by_cases e : j = k
    · subst e
      exact pk_us
    · rw [pk_un e]
      exact hf j (by omega)
theorem q_xfill {g : zSG} {r : Nat} (hr : r < 4) : ∃ f, zF_J7_fill_53178 [.inr (.inl (4, r, 8)), .inl (0 : Int32)] g = some (.inl none, q_O g 4 r ((g 4 r).1, va_up (g 4 r).2 7 f)) ∧ ∀ j, j < 4 → f j = 0 := by
  obtain ⟨f, e1, e2⟩ := q_xfill5 (g := g) (y := g 4 r) hr 4 0 99999 ((g 4 r).2 7) (by omega) (by omega) (fun j hj => absurd hj (by omega))
  rw [q_up_self, show (((g 4 r).1, (g 4 r).2) : zLS) = g 4 r from rfl, q_O_self] at e1
  exact ⟨f, ((ze_J7_fill_53178 0 r hr g).trans (zu_J7_fill_53178_0 99999 0 r hr g)).trans e1, e2⟩
theorem q_xstart35 {g : zSG} {r : Nat} {y : zLS} {id : Int32} (hr : r < 4) : ∀ (m k N : Nat) (f : Nat → Int32), k + m = 30 → m < N → (∀ j, j < k → f j = 0) →
    ∃ f', z_run zM_X2_start zc_X2_start zk_X2_start N 35 [(0, .inr (.inl (4, r, 0))), (3, .inl id), (4, .inl (nI k))] (q_O g 4 r (y.1, va_up y.2 6 f)) (0, 0) = some (.inl none, q_O g 4 r (upd (upd y.1 13 id) 8 0, va_up y.2 6 f')) ∧ ∀ j, j < 30 → f' j = 0 := by
  intro m
  induction m with
  | zero =>
    intro k N f hk hN hf
    obtain ⟨N, rfl⟩ : ∃ N', N = N' + 1 := ⟨N - 1, by omega⟩
    refine ⟨f, ?_, fun j hj => hf j (by omega)⟩
    rw [zu_X2_start_35 _ _ _ r hr, if_pos (show (30 : Int32) ≤ nI k from nI_le (a := 30) (by omega) (by omega))]
    simp only [q_gI, q_O_get, q_O_O]
  | succ m ih =>
    intro k N f hk hN hf
    obtain ⟨N, rfl⟩ : ∃ N', N = N' + 1 := ⟨N - 1, by omega⟩
    rw [zu_X2_start_35 _ _ _ r hr, if_neg (show ¬ (30 : Int32) ≤ nI k from nI_ge (b := 30) (by omega) (by decide)), if_pos (q_inb' (show k < 30 by omega) (by decide)), nI_clamp (by omega), nI_1]
    simp only [q_gA, q_O_get, q_O_O, va_up_self, bx_uu]
    refine ih (k + 1) N (upd f k ((0 : Int32) &&& 1)) (by omega) (by omega) (fun j hj => ?_)
    by_cases e : j = k
    · subst e
      exact pk_us
    · rw [pk_un e]
      exact hf j (by omega)
theorem q_xstart {P : qP} {n : Nat} {g : zSG} {r : Nat} {id : Int32} (hr : r < 4) (hw : q_wP P n) (hb : (g 0 0).2 1 = q_bg P) (hk : (g 0 0).2 2 = q_kp P) (hz : q_zx (g 4 r)) : ∃ y', zF_X2_start [.inr (.inl (4, r, 0)), .inr (.inl (0, 0, 2)), .inr (.inl (0, 0, 3)), .inl id] g = some (.inl none, q_O g 4 r y') ∧ q_rx P (q_S0 P id) y' ∧ q_zx y' ∧ q_kx (g 4 r) y' := by
  obtain ⟨-, -, -, wk, wb⟩ := hw
  obtain ⟨z1, z2, z3⟩ := hz
  rw [(ze_X2_start id r hr g).trans (zu_X2_start_0 99999 id r hr g)]
  rw [q_acp1 hr g, q_bV, hb, q_cpy wb z1, q_gA]
  rw [q_acp2 hr, q_bV, q_O_c _ _ _ (show (0 : Nat) ≠ 4 by decide), hk, q_O_get, show (((g 4 r).1, va_up (g 4 r).2 0 (q_bg P)) : zLS).2 9 = (g 4 r).2 9 from rfl, q_cpy wk z2, q_gA, q_O_get, q_O_O]
  obtain ⟨f7, e7, h7⟩ := q_xfill (g := q_O g 4 r ((g 4 r).1, va_up (va_up (g 4 r).2 0 (q_bg P)) 9 (q_kp P))) hr
  rw [q_O_get, q_O_O] at e7
  dsimp only at e7 ⊢
  rw [e7, q_bV]
  obtain ⟨f6, e6, h6⟩ := q_xstart35 (g := g) (y := ((g 4 r).1, va_up (va_up (va_up (g 4 r).2 0 (q_bg P)) 9 (q_kp P)) 7 f7)) (id := id) hr 30 0 99999 ((g 4 r).2 6) (by omega) (by omega) (fun j hj => absurd hj (by omega))
  have e0 : (((g 4 r).1, va_up (va_up (va_up (va_up (g 4 r).2 0 (q_bg P)) 9 (q_kp P)) 7 f7) 6 ((g 4 r).2 6)) : zLS) = ((g 4 r).1, va_up (va_up (va_up (g 4 r).2 0 (q_bg P)) 9 (q_kp P)) 7 f7) := Prod.ext rfl (q_up_self (va_up (va_up (va_up (g 4 r).2 0 (q_bg P)) 9 (q_kp P)) 7 f7) 6)
  dsimp only at e6
  rw [e0] at e6
  refine ⟨_, e6, ⟨⟨rfl, rfl, rfl, rfl⟩, fun k hk => ?_, fun i hi => ?_⟩, ⟨wb, wk, z3⟩, rfl, rfl⟩
  · show f7 k = upd (fun _ => 0) 0 id (10 + k)
    rw [h7 k hk, pk_un (by omega)]
  · show f6 i = 0
    exact h6 i hi
/-! the reference's run begins -/
theorem q_mrun3 {g : zSG} {y : zLS} {x1 x2 x3 : Int32} {b : Nat → Int32} (hb : y.2 17 = b) (hz : q_z b 8) : ∀ (m k N : Nat) (f : Nat → Int32), k + m = 8 → q_z f 8 → (∀ j, j < k → f j = b j) →
    z_run zM_X5_run zc_X5_run zk_X5_run (N + m + 1) 3 [(0, .inr (.inl (3, 0, 0))), (1, .inl x1), (2, .inl x2), (3, .inl x3), (4, .inl (nI k))] (q_O g 3 0 (y.1, va_up y.2 31 f)) (0, 0) = z_run zM_X5_run zc_X5_run zk_X5_run N 33 [(0, .inr (.inl (3, 0, 0))), (1, .inl x1), (2, .inl x2), (3, .inl x3), (4, .inl (0 : Int32))] (q_O g 3 0 (y.1, va_up y.2 31 b)) (0, 0) := by
  intro m
  induction m with
  | zero =>
    intro k N f hk hf hj
    have e : f = b := by
      funext j
      by_cases h : j < 8
      · exact hj j (by omega)
      · rw [hf j (by omega), hz j (by omega)]
    subst e
    rw [zu_X5_run_3, if_pos (show (8 : Int32) ≤ nI k from nI_le (a := 8) (by omega) (by omega))]
  | succ m ih =>
    intro k N f hk hf hj
    rw [zu_X5_run_3, if_neg (show ¬ (8 : Int32) ≤ nI k from nI_ge (b := 8) (by omega) (by decide)), if_pos (q_inb' (show k < 8 by omega) (by decide)), if_pos (q_inb' (show k < 8 by omega) (by decide)), nI_clamp (by omega), nI_1]
    simp only [q_gA, q_O_get, q_O_O, va_up_self, bx_uu]
    rw [show va_up y.2 31 f 17 = b from hb]
    refine ih (k + 1) N (upd f k (b k)) (by omega) (q_z_up hf (by omega)) (fun j h => ?_)
    by_cases e : j = k
    · subst e
      exact pk_us
    · rw [pk_un e]
      exact hj j (by omega)
theorem q_mrun33 {g : zSG} {y : zLS} {x1 x2 x3 : Int32} : ∀ (m k N : Nat) (f : Nat → Int32), k + m = 240 → (∀ j, j < k → f j = 0) →
    ∃ f', z_run zM_X5_run zc_X5_run zk_X5_run (N + m + 1) 33 [(0, .inr (.inl (3, 0, 0))), (1, .inl x1), (2, .inl x2), (3, .inl x3), (4, .inl (nI k))] (q_O g 3 0 (y.1, va_up y.2 33 f)) (0, 0) = z_run zM_X5_run zc_X5_run zk_X5_run N 58 [(0, .inr (.inl (3, 0, 0))), (1, .inl x1), (2, .inl x2), (3, .inl x3), (4, .inl (0 : Int32))] (q_O g 3 0 (y.1, va_up y.2 33 f')) (0, 0) ∧ ∀ j, j < 240 → f' j = 0 := by
  intro m
  induction m with
  | zero =>
    intro k N f hk hj
    refine ⟨f, ?_, fun j h => hj j (by omega)⟩
    rw [zu_X5_run_33, if_pos (show (240 : Int32) ≤ nI k from nI_le (a := 240) (by omega) (by omega))]
  | succ m ih =>
    intro k N f hk hj
    rw [zu_X5_run_33, if_neg (show ¬ (240 : Int32) ≤ nI k from nI_ge (b := 240) (by omega) (by decide)), if_pos (q_inb' (show k < 240 by omega) (by decide)), nI_clamp (by omega), nI_1]
    simp only [q_gA, q_O_get, q_O_O, va_up_self, bx_uu]
    refine ih (k + 1) N (upd f k ((0 : Int32) &&& 1)) (by omega) (fun j h => ?_)
    by_cases e : j = k
    · subst e
      exact pk_us
    · rw [pk_un e]
      exact hj j (by omega)
theorem q_mrun58 {g : zSG} {y : zLS} {x1 x2 x3 : Int32} {n : Nat} (hn : n ≤ 30) (h16 : y.1 16 = nI n) : ∀ (m k N : Nat) (f : Nat → Int32), k + m = n → (∀ j, j < k → f j = 0) →
    ∃ f', z_run zM_X5_run zc_X5_run zk_X5_run (N + m + 1) 58 [(0, .inr (.inl (3, 0, 0))), (1, .inl x1), (2, .inl x2), (3, .inl x3), (4, .inl (nI k))] (q_O g 3 0 (y.1, va_up y.2 34 f)) (0, 0) = z_run zM_X5_run zc_X5_run zk_X5_run N 94 [(0, .inr (.inl (3, 0, 0))), (1, .inl x1), (2, .inl x2), (4, .inl (0 : Int32))] (q_O g 3 0 (upd (upd y.1 36 x3) 37 0, va_up y.2 34 f')) (0, 0) ∧ ∀ j, j < n → f' j = 0 := by
  intro m
  induction m with
  | zero =>
    intro k N f hk hj
    refine ⟨f, ?_, fun j h => hj j (by omega)⟩
    rw [zu_X5_run_58, q_O_get, show ((y.1, va_up y.2 34 f) : zLS).1 16 = nI n from h16, if_pos (nI_le (by omega) (by omega))]
    simp only [q_gI, q_O_get, q_O_O]
  | succ m ih =>
    intro k N f hk hj
    rw [zu_X5_run_58, q_O_get, show ((y.1, va_up y.2 34 f) : zLS).1 16 = nI n from h16, if_neg (nI_ge (by omega) (by omega)), if_pos (q_inb' (show k < 30 by omega) (by decide)), nI_clamp (by omega), nI_1]
    simp only [q_gA, q_O_get, q_O_O, va_up_self, bx_uu]
    refine ih (k + 1) N (upd f k ((0 : Int32) &&& 1)) (by omega) (fun j h => ?_)
    by_cases e : j = k
    · subst e
      exact pk_us
    · rw [pk_un e]
      exact hj j (by omega)
/-- the reference's run up to its loop over the asks -/
theorem q_mstart {P : qP} {n v : Nat} {g : zSG} {x2 id : Int32} (hw : q_wP P n) (hv : v < 2) (hb : q_mb P n (g 3 0)) (hz : q_z ((g 3 0).2 31) 8) : ∃ N y', 90000 ≤ N ∧ zF_X5_run [.inr (.inl (3, 0, 0)), .inl (nI v), .inl x2, .inl id] g = z_run zM_X5_run zc_X5_run zk_X5_run N 94 [(0, .inr (.inl (3, 0, 0))), (1, .inl (nI v)), (2, .inl x2), (4, .inl (nI 0))] (q_O g 3 0 y') (0, 0) ∧ q_rm n v (q_S0 P id) y' ∧ q_pr (g 3 0) y' := by
  obtain ⟨hn, -, -, -, wb⟩ := hw
  obtain ⟨b1, b2, ⟨b3, b4⟩, b5⟩ := hb
  have e3 := q_mrun3 (g := g) (y := g 3 0) (x1 := nI v) (x2 := x2) (x3 := id) b4 wb 8 0 99990 ((g 3 0).2 31) (by omega) hz (fun j hj => absurd hj (by omega))
  rw [q_up_self, show (((g 3 0).1, (g 3 0).2) : zLS) = g 3 0 from rfl, q_O_self, show 99990 + 8 + 1 = 99999 from rfl] at e3
  obtain ⟨f33, e33, h33⟩ := q_mrun33 (g := g) (y := ((g 3 0).1, va_up (g 3 0).2 31 (q_bg P))) (x1 := nI v) (x2 := x2) (x3 := id) 240 0 99749 ((g 3 0).2 33) (by omega) (fun j hj => absurd hj (by omega))
  dsimp only at e33
  rw [show va_up (va_up (g 3 0).2 31 (q_bg P)) 33 ((g 3 0).2 33) = va_up (g 3 0).2 31 (q_bg P) from q_up_self (va_up (g 3 0).2 31 (q_bg P)) 33, show 99749 + 240 + 1 = 99990 from rfl] at e33
  obtain ⟨f58, e58, h58⟩ := q_mrun58 (g := g) (y := ((g 3 0).1, va_up (va_up (g 3 0).2 31 (q_bg P)) 33 f33)) (x1 := nI v) (x2 := x2) (x3 := id) hn b1 n 0 (99748 - n) ((g 3 0).2 34) (by omega) (fun j hj => absurd hj (by omega))
  dsimp only at e58
  rw [show va_up (va_up (va_up (g 3 0).2 31 (q_bg P)) 33 f33) 34 ((g 3 0).2 34) = va_up (va_up (g 3 0).2 31 (q_bg P)) 33 f33 from q_up_self (va_up (va_up (g 3 0).2 31 (q_bg P)) 33 f33) 34, show 99748 - n + n + 1 = 99749 by omega] at e58
  refine ⟨99748 - n, _, by omega, ((ze_X5_run (nI v) x2 id g).trans (zu_X5_run_0 99999 (nI v) x2 id g)).trans (e3.trans (e33.trans e58)), ⟨⟨rfl, rfl, rfl⟩, fun k hk => ⟨0, by decide, ?_, fun i hi => ?_⟩, fun i hi => ?_⟩, fun k h1 h2 h3 => ?_, fun k hk => ?_⟩
  · show upd (fun _ => 0) 0 id (10 + k) = nI 0
    rw [pk_un (by omega)]
    rfl
  · show f33 (30 * (v * 4 + k) + i) = _
    rw [h33 _ (by omega)]
    simp
  · exact h58 i hi
  · show upd (upd (g 3 0).1 36 id) 37 0 k = _
    rw [pk_un h2, pk_un h1]
  · show va_up (va_up (va_up (g 3 0).2 31 (q_bg P)) 33 f33) 34 f58 k = _
    rw [va_up_ne _ _ (by omega), va_up_ne _ _ (by omega), va_up_ne _ _ (by omega)]
