/-! ===== pure part: runs ===== -/
def q_runF (P : qP) (v : Nat) (L : Nat → Nat) (sel : Nat → Bool) : Nat → qRS → qRS
  | 0, S => S
  | m + 1, S => if sel m then q_do P v (q_runF P v L sel m S) (L m) else q_runF P v L sel m S
def q_RA (P : qP) (n v : Nat) (id : Int32) : qRS := q_runF P v (q_lineF (q_tk P) n) (fun _ => true) n (q_S0 P id)
theorem q_runF_z {P : qP} {v : Nat} {L : Nat → Nat} {sel : Nat → Bool} {S : qRS} (h : q_z (S.1.2 0) 8) : ∀ m, q_z ((q_runF P v L sel m S).1.2 0) 8
  | 0 => h
  | m + 1 => by
    have ih := q_runF_z (P := P) (v := v) (L := L) (sel := sel) h m
    rw [q_runF]
    split
    · exact q_ex_z _ _ _ _ _ _ _ ih
    · exact ih
theorem q_runF_cong {P : qP} {v : Nat} {L : Nat → Nat} {sel sel' : Nat → Bool} {S : qRS} : ∀ m, (∀ j, j < m → sel j = sel' j) → q_runF P v L sel m S = q_runF P v L sel' m S
  | 0, _ => rfl
  | m + 1, h => by rw [q_runF, q_runF, h m (by omega), q_runF_cong m (fun j hj => h j (by omega))]
def q_HX (P : qP) (n : Nat) (g : zSG) : Prop := q_bk P n (g 2 0) ∧ (∀ j, j < n → (g 2 0).2 6 j = nI (q_lineF (q_tk P) n j)) ∧ q_sx P (g 5) ∧ (g 0 0).2 1 = q_bg P ∧ (g 0 0).2 2 = q_kp P
theorem q_HX_4 {P : qP} {n r : Nat} {g : zSG} {y : zLS} (h : q_HX P n g) : q_HX P n (q_O g 4 r y) := h
theorem q_HX_3 {P : qP} {n : Nat} {g : zSG} {y : zLS} (h : q_HX P n g) : q_HX P n (q_O g 3 0 y) := h
theorem q_xall16 {P : qP} {n r v : Nat} {S0 : qRS} (hr : r < 4) (hv : v < 2) (hw : q_wP P n) : ∀ (m k N : Nat) (g : zSG), k + m = n → m < N → q_HX P n g → q_rx P (q_runF P v (q_lineF (q_tk P) n) (fun _ => true) k S0) (g 4 r) → q_zx (g 4 r) →
    ∃ y', z_run zM_X4_doAll zc_X4_doAll zk_X4_doAll N 16 [(0, .inr (.inl (0, 0, 0))), (1, .inr (.inl (4, r, 0))), (2, .inl (nI v)), (4, .inl (nI k))] g (0, 0) = some (.inl none, q_O g 4 r y') ∧ q_rx P (q_runF P v (q_lineF (q_tk P) n) (fun _ => true) n S0) y' ∧ q_zx y' ∧ q_kx (g 4 r) y' := by
  have hn := hw.1
  intro m
  induction m with
  | zero =>
    intro k N g hk hN hH h hz
    obtain ⟨N, rfl⟩ : ∃ N', N = N' + 1 := ⟨N - 1, by omega⟩
    have e : k = n := by omega
    subst e
    refine ⟨g 4 r, ?_, h, hz, rfl, rfl⟩
    rw [zu_X4_doAll_16, hH.1.1, if_pos (nI_le (Nat.le_refl _) (by omega)), q_O_self]
  | succ m ih =>
    intro k N g hk hN hH h hz
    obtain ⟨N, rfl⟩ : ∃ N', N = N' + 1 := ⟨N - 1, by omega⟩
    have hl := q_line_lt (q_tk P) n k (by omega)
    obtain ⟨y1, e1, h1, z1, k1⟩ := q_xask (g := g) hr hv hl hw hH.1 hH.2.2.1 h hz
    rw [zu_X4_doAll_16, hH.1.1, if_neg (nI_ge (by omega) (by omega)), if_pos (q_inb' (show k < 30 by omega) (by decide)), nI_clamp (by omega), hH.2.1 k (by omega), e1, q_bV, nI_1]
    obtain ⟨y2, e2, h2, z2, k2⟩ := ih (k + 1) N (q_O g 4 r y1) (by omega) (by omega) (q_HX_4 hH) (by rw [q_O_get]; exact h1) (by rw [q_O_get]; exact z1)
    rw [q_O_O] at e2
    rw [q_O_get] at k2
    exact ⟨y2, e2, h2, z2, k2.1.trans k1.1, k2.2.trans k1.2⟩
theorem q_xall {P : qP} {n r v : Nat} {g : zSG} {id : Int32} (hr : r < 4) (hv : v < 2) (hw : q_wP P n) (hH : q_HX P n g) (hz : q_zx (g 4 r)) : ∃ y', zF_X4_doAll [.inr (.inl (0, 0, 0)), .inr (.inl (4, r, 0)), .inl (nI v), .inl id] g = some (.inl none, q_O g 4 r y') ∧ q_rx P (q_RA P n v id) y' ∧ q_zx y' ∧ q_kx (g 4 r) y' := by
  obtain ⟨y1, e1, h1, z1, k1⟩ := q_xstart (id := id) hr hw hH.2.2.2.1 hH.2.2.2.2 hz
  have hn := hw.1
  obtain ⟨y2, e2, h2, z2, k2⟩ := q_xall16 (S0 := q_S0 P id) hr hv hw n 0 99999 (q_O g 4 r y1) (by omega) (by omega) (q_HX_4 hH) (by rw [q_O_get]; exact h1) (by rw [q_O_get]; exact z1)
  rw [q_O_O] at e2
  rw [q_O_get] at k2
  refine ⟨y2, ?_, h2, z2, k2.1.trans k1.1, k2.2.trans k1.2⟩
  rw [(ze_X4_doAll (nI v) id r hr g).trans (zu_X4_doAll_0 99999 (nI v) id r g), e1, q_bV]
  exact e2
/-! the runs with all asks -/
def q_fx (P : qP) (n : Nat) (g : zSG) : Prop := q_rx P (q_RA P n 0 0) (g 4 0) ∧ q_rx P (q_RA P n 1 0) (g 4 1)
def q_kn (P : qP) (n : Nat) (g : zSG) : Prop := (g 0 0).1 11 = 0 ∨ ((g 0 0).1 11 = 1 ∧ q_fx P n g)
theorem q_xbring {P : qP} {n : Nat} {g : zSG} (hw : q_wP P n) (hH : q_HX P n g) (hz : ∀ r, r < 4 → q_zx (g 4 r)) (hk : q_kn P n g) : ∃ y0 y1, zF_X4_bringRuns [.inr (.inl (0, 0, 0))] g = some (.inl none, q_O (q_O (q_O g 4 0 y0) 4 1 y1) 0 0 (upd (g 0 0).1 11 1, (g 0 0).2)) ∧ q_rx P (q_RA P n 0 0) y0 ∧ q_rx P (q_RA P n 1 0) y1 ∧ q_zx y0 ∧ q_zx y1 := by
  rw [(ze_X4_bringRuns g).trans (zu_X4_bringRuns_0 99999 g)]
  rcases hk with h | ⟨h, f0, f1⟩
  · obtain ⟨y0, e0, r0, z0, -⟩ := q_xall (r := 0) (v := 0) (id := 0) (by decide) (by decide) hw hH (hz 0 (by decide))
    obtain ⟨y1, e1, r1, z1, -⟩ := q_xall (r := 1) (v := 1) (id := 0) (g := q_O g 4 0 y0) (by decide) (by decide) hw (q_HX_4 hH) (by rw [q_O_i _ _ _ (by decide)]; exact hz 1 (by decide))
    refine ⟨y0, y1, ?_, r0, r1, z0, z1⟩
    have e0' : zF_X4_doAll [.inr (.inl (0, 0, 0)), .inr (.inl (4, 0, 0)), .inl (0 : Int32), .inl (0 : Int32)] g = some (.inl none, q_O g 4 0 y0) := e0
    have e1' : zF_X4_doAll [.inr (.inl (0, 0, 0)), .inr (.inl (4, 1, 0)), .inl ((0 : Int32) + 1), .inl (0 : Int32)] (q_O g 4 0 y0) = some (.inl none, q_O (q_O g 4 0 y0) 4 1 y1) := e1
    rw [if_pos h, zu_X4_bringRuns_10, if_neg (by decide), if_pos (show z_inb (0 : Int32) 2 from q_inb' (k := 0) (by decide) (by decide)), show (0 : Int32).toNatClampNeg = 0 from rfl, e0', q_bV, zu_X4_bringRuns_10, if_neg (by decide), if_pos (show z_inb ((0 : Int32) + 1) 2 from q_inb' (k := 1) (by decide) (by decide)), show ((0 : Int32) + 1).toNatClampNeg = 1 from rfl, e1', q_bV, zu_X4_bringRuns_10, if_pos (by decide), q_11]
    rfl
  · refine ⟨g 4 0, g 4 1, ?_, f0, f1, hz 0 (by decide), hz 1 (by decide)⟩
    rw [if_neg (by rw [h]; decide), q_O_self, q_O_self, fa_upd_same h, show (((g 0 0).1, (g 0 0).2) : zLS) = g 0 0 from rfl, q_O_self]
/-! the reference's runs -/
theorem q_bit {M a : Nat} (hM : M < 2 ^ 31) (ha : a < 31) : ((nI M >>> (nI a &&& 31)) &&& (1 : Int32)) = 1 ↔ M.testBit a = true := by
  have h : ∀ j : Fin 31, ((nI j.val &&& 31).toBitVec.smod 32).toNat = j.val := by decide
  rw [pk_shrN hM _ a (h ⟨a, ha⟩), pk_andN (Nat.lt_of_le_of_lt (Nat.div_le_self _ _) (by omega)) 1 (by decide), show (1 : Int32) = nI 1 from rfl, nI_eq (by omega) (by decide), Nat.testBit_eq_decide_div_mod_eq]
  simp
theorem q_mrun94 {P : qP} {n v M : Nat} {S0 : qRS} {L : Nat → Nat} {sel : Nat → Bool} (hv : v < 2) (hw : q_wP P n) (hM : M < 2 ^ 31) (hL : ∀ j, j < n → L j < n) (hs : ∀ j, j < n → M.testBit (L j) = sel j) : ∀ (m k N : Nat) (g : zSG), k + m = n → m < N → q_mb P n (g 3 0) → (g 3 0).1 35 = nI n → (∀ j, j < n → (g 3 0).2 25 j = nI (L j)) → q_rm n v (q_runF P v L sel k S0) (g 3 0) →
    ∃ y', z_run zM_X5_run zc_X5_run zk_X5_run N 94 [(0, .inr (.inl (3, 0, 0))), (1, .inl (nI v)), (2, .inl (nI M)), (4, .inl (nI k))] g (0, 0) = some (.inl none, q_O g 3 0 y') ∧ q_rm n v (q_runF P v L sel n S0) y' ∧ q_pr (g 3 0) y' := by
  have hn := hw.1
  intro m
  induction m with
  | zero =>
    intro k N g hk hN hb h35 hR h
    obtain ⟨N, rfl⟩ : ∃ N', N = N' + 1 := ⟨N - 1, by omega⟩
    have e : k = n := by omega
    subst e
    refine ⟨g 3 0, ?_, h, q_pr_refl _⟩
    rw [zu_X5_run_94, h35, if_pos (nI_le (Nat.le_refl _) (by omega)), q_O_self]
  | succ m ih =>
    intro k N g hk hN hb h35 hR h
    obtain ⟨N, rfl⟩ : ∃ N', N = N' + 1 := ⟨N - 1, by omega⟩
    have hl := hL k (by omega)
    rw [zu_X5_run_94, h35, if_neg (nI_ge (by omega) (by omega)), if_pos (q_inb' (show k < 30 by omega) (by decide)), nI_clamp (by omega), hR k (by omega), nI_1]
    by_cases hb1 : sel k = true
    · obtain ⟨y1, e1, h1, p1⟩ := q_mdoes (g := g) hv hl hw hb h
      rw [if_pos ((q_bit hM (by omega)).mpr ((hs k (by omega)).trans hb1)), if_pos (q_inb' (show k < 30 by omega) (by decide)), e1, q_bV]
      obtain ⟨y2, e2, h2, p2⟩ := ih (k + 1) N (q_O g 3 0 y1) (by omega) (by omega) (by rw [q_O_get]; exact q_mb_pr hb p1) (by rw [q_O_get, p1.1 35 (by decide) (by decide) (by decide)]; exact h35) (by rw [q_O_get, p1.2 25 (by decide)]; exact hR) (by rw [q_O_get, q_runF, if_pos hb1]; exact h1)
      rw [q_O_O] at e2
      rw [q_O_get] at p2
      exact ⟨y2, e2, h2, q_pr_trans p1 p2⟩
    · rw [if_neg (fun hc => hb1 ((hs k (by omega)).symm.trans ((q_bit hM (by omega)).mp hc)))]
      exact ih (k + 1) N g (by omega) (by omega) hb h35 hR (by rw [q_runF, if_neg hb1]; exact h)
theorem q_mrun {P : qP} {n v M : Nat} {g : zSG} {id : Int32} {L : Nat → Nat} {sel : Nat → Bool} (hv : v < 2) (hw : q_wP P n) (hM : M < 2 ^ 31) (hL : ∀ j, j < n → L j < n) (hs : ∀ j, j < n → M.testBit (L j) = sel j) (hb : q_mb P n (g 3 0)) (h35 : (g 3 0).1 35 = nI n) (hR : ∀ j, j < n → (g 3 0).2 25 j = nI (L j)) (hz : q_z ((g 3 0).2 31) 8) : ∃ y', zF_X5_run [.inr (.inl (3, 0, 0)), .inl (nI v), .inl (nI M), .inl id] g = some (.inl none, q_O g 3 0 y') ∧ q_rm n v (q_runF P v L sel n (q_S0 P id)) y' ∧ q_pr (g 3 0) y' ∧ q_z (y'.2 31) 8 := by
  have hn := hw.1
  obtain ⟨N, y1, hN, e1, h1, p1⟩ := q_mstart (x2 := nI M) (id := id) hw hv hb hz
  obtain ⟨y2, e2, h2, p2⟩ := q_mrun94 (S0 := q_S0 P id) hv hw hM hL hs n 0 N (q_O g 3 0 y1) (by omega) (by omega) (by rw [q_O_get]; exact q_mb_pr hb p1) (by rw [q_O_get, p1.1 35 (by decide) (by decide) (by decide)]; exact h35) (by rw [q_O_get, p1.2 25 (by decide)]; exact hR) (by rw [q_O_get]; exact h1)
  rw [q_O_O] at e2
  rw [q_O_get] at p2
  refine ⟨y2, e1.trans e2, h2, q_pr_trans p1 p2, ?_⟩
  rw [h2.1.2.2]
  exact q_runF_z hw.2.2.2.2 n
theorem q_ones {n a : Nat} (h : a < n) : (2 ^ n - 1).testBit a = true := by
  rw [Nat.testBit_two_pow_sub_one]
  simp [h]
theorem q_full {n : Nat} (h : n ≤ 30) : ((1 : Int32) <<< (nI n &&& 31)) - 1 = nI (2 ^ n - 1) := by
  have h1 := Nat.two_pow_pos n
  rw [q_shl (by omega), show (1 : Int32) = nI 1 from rfl, pk_sub (by omega)]
/-- the line and the rest of what lasts in the reference -/
def q_pl (y y' : zLS) : Prop := (∀ k, k ≠ 35 → k ≠ 36 → k ≠ 37 → k ≠ 38 → y'.1 k = y.1 k) ∧ ∀ k, (k < 25 ∨ 34 < k) → y'.2 k = y.2 k
theorem q_mb_pl {P : qP} {n : Nat} {y y' : zLS} (hb : q_mb P n y) (h : q_pl y y') : q_mb P n y' := by
  obtain ⟨b1, b2, b3, b4⟩ := hb
  unfold q_mb
  rw [h.1 16 (by decide) (by decide) (by decide) (by decide), h.2 19 (by decide), h.2 20 (by decide), h.2 21 (by decide), h.2 22 (by decide), h.2 23 (by decide), h.2 24 (by decide), h.2 18 (by decide), h.2 17 (by decide), h.2 14 (by decide), h.2 15 (by decide), h.2 12 (by decide), h.2 13 (by decide)]
  exact ⟨b1, b2, b3, b4⟩
theorem q_pr_pl {x y z : zLS} (h : q_pl x y) (h2 : q_pr y z) : q_pl x z := ⟨fun k a b c d => (h2.1 k b c d).trans (h.1 k a b c d), fun k a => (h2.2 k (by omega)).trans (h.2 k a)⟩
theorem q_mlined {P : qP} {n : Nat} {g : zSG} (hw : q_wP P n) (hb : q_mb P n (g 3 0)) : ∃ y', zF_X5_findLine [.inr (.inl (3, 0, 0))] g = some (.inl none, q_O g 3 0 y') ∧ q_mb P n y' ∧ y'.1 35 = nI n ∧ (∀ j, j < n → y'.2 25 j = nI (q_lineF (q_tk P) n j)) ∧ q_pl (g 3 0) y' ∧ y'.2 31 = (g 3 0).2 31 := by
  obtain ⟨R, e1, e2⟩ := q_mfind hw hb
  have hpl : q_pl (g 3 0) (upd (g 3 0).1 35 (nI n), va_up (g 3 0).2 25 R) := ⟨fun k h1 _ _ _ => pk_un h1, fun k hk => va_up_ne _ _ (by omega)⟩
  exact ⟨_, e1, q_mb_pl hb hpl, rfl, fun j hj => e2 j hj, hpl, rfl⟩
theorem q_mall {P : qP} {n v : Nat} {g : zSG} {id : Int32} (hv : v < 2) (hw : q_wP P n) (hb : q_mb P n (g 3 0)) (hz : q_z ((g 3 0).2 31) 8) : ∃ y', zF_X5_runAll [.inr (.inl (3, 0, 0)), .inl (nI v), .inl id] g = some (.inl none, q_O g 3 0 y') ∧ q_rm n v (q_RA P n v id) y' ∧ q_pl (g 3 0) y' ∧ q_z (y'.2 31) 8 ∧ y'.1 35 = nI n ∧ ∀ j, j < n → y'.2 25 j = nI (q_lineF (q_tk P) n j) := by
  have hn := hw.1
  have h2n : 2 ^ n ≤ 2 ^ 30 := Nat.pow_le_pow_right (by decide) hn
  obtain ⟨y1, e1, b1, c1, d1, p1, k1⟩ := q_mlined hw hb
  obtain ⟨y2, e2, h2, p2, z2⟩ := q_mrun (P := P) (n := n) (v := v) (M := 2 ^ n - 1) (g := q_O g 3 0 y1) (id := id) (L := q_lineF (q_tk P) n) (sel := fun _ => true) hv hw (by omega) (fun j hj => q_line_lt _ n j hj) (fun j hj => q_ones (q_line_lt _ n j hj)) (by rw [q_O_get]; exact b1) (by rw [q_O_get]; exact c1) (by rw [q_O_get]; exact d1) (by rw [q_O_get, k1]; exact hz)
  rw [q_O_O] at e2
  rw [q_O_get] at p2
  refine ⟨y2, ?_, h2, q_pr_pl p1 p2, z2, (p2.1 35 (by decide) (by decide) (by decide)).trans c1, fun j hj => by rw [p2.2 25 (by decide)]; exact d1 j hj⟩
  rw [(ze_X5_runAll (nI v) id g).trans (zu_X5_runAll_0 99999 (nI v) id g), e1, q_bV, q_O_get, b1.1, q_full hn, e2, q_bV]
