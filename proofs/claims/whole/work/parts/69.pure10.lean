/-! ===== pure part: what holds between calls ===== -/
def q_sc (p : Nat → Bool) : Nat → Nat → Nat
  | 0, k => k
  | m + 1, k => if p k then k else q_sc p m (k + 1)
def q_ln (E : zLS) : Nat := (E.1 4).toNatClampNeg
def q_pd (nz : Nat → Int32) (kd : Nat) (E E' : zLS) (f : Nat) : Bool := decide (E.2 1 f ≠ E'.2 1 f) && decide (nz (kd * 8 + f) = 0)
def q_wh (nz : Nat → Int32) (kd : Nat) (E E' : zLS) : Option Nat := if q_sc (q_pd nz kd E E') (min (q_ln E) (q_ln E')) 0 < min (q_ln E) (q_ln E') then some (q_sc (q_pd nz kd E E') (min (q_ln E) (q_ln E')) 0) else if q_ln E = q_ln E' then none else some (min (q_ln E) (q_ln E'))
def q_whO (nz : Nat → Int32) (kd : Nat) : Option zLS → Option zLS → Option Nat
  | some E, some E' => q_wh nz kd E E'
  | _, _ => none
def q_dif (P : qP) (n : Nat) (nz : Nat → Int32) (sel : Nat → Bool) (a : Nat) : Option Nat := q_whO nz (q_kd P a) ((q_runF P 0 (q_lineF (q_tk P) n) sel n (q_S0 P 0)).2 a) ((q_runF P 1 (q_lineF (q_tk P) n) sel n (q_S0 P 0)).2 a)
def q_wA (P : qP) (n : Nat) (nz : Nat → Int32) (a : Nat) : Option Nat := q_dif P n nz (fun _ => true) a
def q_pos (P : qP) (n a : Nat) : Nat := q_sc (fun i => decide (q_lineF (q_tk P) n i = a)) n 0
def q_sl (p s i : Nat) : Bool := decide (i < p - 10) || (decide (i < p) && s.testBit (p - 1 - i)) || decide (i = p)
def q_D (P : qP) (n : Nat) (nz : Nat → Int32) (a s : Nat) : Bool := (q_dif P n nz (q_sl (q_pos P n a) s) a).isSome
def q_pc (s : Nat) : Nat := fb_ct (fun i => s.testBit i) 32
def q_isS (P : qP) (n : Nat) (nz : Nat → Int32) (a s : Nat) : Prop := s < 2 ^ min (q_pos P n a) 10 ∧ q_D P n nz a s = true ∧ ∀ s', s' < 2 ^ min (q_pos P n a) 10 → q_D P n nz a s' = true → q_pc s < q_pc s' ∨ (q_pc s = q_pc s' ∧ s' ≤ s)
def q_sk (P : qP) (n : Nat) (w : zLS) : Prop := ∃ M, M < 2 ^ 30 ∧ w.1 10 = nI M ∧ ∀ a, a < n → M.testBit a = true → ∃ s, w.2 9 a = nI s ∧ q_isS P n (w.2 3) a s
def q_tp (tp : Nat) (w y : zLS) : Prop := tp ≤ 400 ∧ w.1 12 = nI tp ∧ y.1 1 = nI tp ∧ ∀ j, j < tp → ∃ b, b < 256 ∧ w.2 0 j = nI b ∧ y.2 9 j = nI b
def q_nz (w y : zLS) : Prop := ∀ j, j < 32 → w.2 3 j = y.2 39 j ∧ (w.2 3 j = 0 ∨ w.2 3 j = 1)
def q_INV (P : qP) (n tp : Nat) (g : zSG) : Prop := q_wP P n ∧ q_HX P n g ∧ (∀ r, r < 4 → q_zx (g 4 r)) ∧ q_kn P n g ∧ q_mb P n (g 3 0) ∧ q_z ((g 3 0).2 31) 8 ∧ q_tp tp (g 0 0) (g 3 0) ∧ q_nz (g 0 0) (g 3 0) ∧ q_sk P n (g 0 0)
def q_I (g : zSG) : Prop := ∃ P n tp, q_INV P n tp g
def q_rel (em : Nat → Nat) (b th : Int32) : Option zVV ⊕ Nat → Prop
  | .inl (some (.inl v)) => th = 0 ∧ v = b
  | .inr e => em e ≠ 0 ∧ th = nI (em e)
  | _ => False
def q_sim (em : Nat → Nat) (FX FM : List zVV → zSG → Option zRR) (vs : List zVV) : Prop := ∀ g, q_I g → ∃ rx g1 b g2, FX (.inr (.inl (0, 0, 0)) :: vs) g = some (rx, g1) ∧ FM (.inr (.inl (3, 0, 0)) :: vs) g1 = some (.inl (some (.inl b)), g2) ∧ q_rel em b ((g2 3 0).1 0) rx ∧ q_I g2
/-! error codes: 0 IllegalArgument, 1 IndexOutOfBounds, 2 NoSuchElement -/
def q_eI (e : Nat) : Nat := if e = 0 then 1 else 0
def q_eX (e : Nat) : Nat := if e = 1 then 1 else 0
def q_eN (e : Nat) : Nat := if e = 2 then 1 else 0
def q_eNI (e : Nat) : Nat := if e = 2 then 1 else if e = 0 then 2 else 0
def q_eXI (e : Nat) : Nat := if e = 1 then 1 else if e = 0 then 2 else 0
/-! the parts of the reference that last -/
def q_pw (y y' : zLS) : Prop := y'.1 1 = y.1 1 ∧ y'.1 16 = y.1 16 ∧ ∀ k, (k < 25 ∨ k = 39) → y'.2 k = y.2 k
theorem q_pw_pl {y y' : zLS} (h : q_pl y y') : q_pw y y' := ⟨h.1 1 (by decide) (by decide) (by decide) (by decide), h.1 16 (by decide) (by decide) (by decide) (by decide), fun k hk => h.2 k (by omega)⟩
theorem q_pw_pr {y y' : zLS} (h : q_pr y y') : q_pw y y' := ⟨h.1 1 (by decide) (by decide) (by decide), h.1 16 (by decide) (by decide) (by decide), fun k hk => h.2 k (by omega)⟩
theorem q_pw_trans {x y z : zLS} (h : q_pw x y) (h2 : q_pw y z) : q_pw x z := ⟨h2.1.trans h.1, h2.2.1.trans h.2.1, fun k hk => (h2.2.2 k hk).trans (h.2.2 k hk)⟩
theorem q_pw_refl (y : zLS) : q_pw y y := ⟨rfl, rfl, fun _ _ => rfl⟩
theorem q_pw_int {y y' : zLS} {k : Nat} {v : Int32} (h : q_pw y y') (h1 : k ≠ 1) (h2 : k ≠ 16) : q_pw y (upd y'.1 k v, y'.2) := ⟨(pk_un (Ne.symm h1)).trans h.1, (pk_un (Ne.symm h2)).trans h.2.1, h.2.2⟩
theorem q_mb_pw {P : qP} {n : Nat} {y y' : zLS} (hb : q_mb P n y) (h : q_pw y y') : q_mb P n y' := by
  obtain ⟨b1, b2, b3, b4⟩ := hb
  unfold q_mb
  rw [h.2.1, h.2.2 19 (by decide), h.2.2 20 (by decide), h.2.2 21 (by decide), h.2.2 22 (by decide), h.2.2 23 (by decide), h.2.2 24 (by decide), h.2.2 18 (by decide), h.2.2 17 (by decide), h.2.2 14 (by decide), h.2.2 15 (by decide), h.2.2 12 (by decide), h.2.2 13 (by decide)]
  exact ⟨b1, b2, b3, b4⟩
theorem q_INV_M {P : qP} {n tp : Nat} {g : zSG} {y' : zLS} (h : q_INV P n tp g) (hp : q_pw (g 3 0) y') (hz : q_z (y'.2 31) 8) : q_INV P n tp (q_O g 3 0 y') := by
  obtain ⟨h1, h2, h3, h4, h5, h6, ⟨t1, t2, t3, t4⟩, h8, h9⟩ := h
  refine ⟨h1, h2, h3, h4, ?_, ?_, ⟨t1, t2, ?_, fun j hj => ?_⟩, fun j hj => ?_, h9⟩
  · rw [q_O_get]
    exact q_mb_pw h5 hp
  · rw [q_O_get]
    exact hz
  · rw [q_O_get, hp.1]
    exact t3
  · rw [q_O_get, hp.2.2 9 (by decide)]
    exact t4 j hj
  · rw [q_O_get, hp.2.2 39 (by decide)]
    exact h8 j hj
theorem q_INV_t {P : qP} {n tp : Nat} {g : zSG} {v : Int32} (h : q_INV P n tp g) : q_INV P n tp (z_gI g 3 0 0 v) := by
  rw [q_gI]
  exact q_INV_M h (q_pw_int (q_pw_refl _) (by decide) (by decide)) h.2.2.2.2.2.1
/-! the checks of the program -/
theorem q_ckA_ok {g : zSG} {n k : Nat} (h : (g 2 0).1 7 = nI n) (hn : n ≤ 30) (hk : k < n) : zF_X4_checkAsk [.inr (.inl (0, 0, 0)), .inl (nI k)] g = some (.inl none, g) := by
  rw [(ze_X4_checkAsk (nI k) g).trans (zu_X4_checkAsk_0 99999 (nI k) g), h, if_neg (nI_pos (by omega)), if_pos (nI_lt hk (by omega))]
theorem q_ckA_bad {g : zSG} {n : Nat} {x : Int32} (h : (g 2 0).1 7 = nI n) (hx : x < 0 ∨ nI n ≤ x) : zF_X4_checkAsk [.inr (.inl (0, 0, 0)), .inl x] g = some (.inr 2, g) := by
  rw [(ze_X4_checkAsk x g).trans (zu_X4_checkAsk_0 99999 x g), h]
  rcases hx with hx | hx
  · rw [if_pos hx]
  · by_cases h0 : x < 0
    · rw [if_pos h0]
    · rw [if_neg h0, if_neg (fun hc => (fa_of_lt hc).2.1 hx)]
theorem q_ckV_ok {g : zSG} {k : Nat} (hk : k < 2) : zF_X4_checkVersion [.inl (nI k)] g = some (.inl none, g) := by
  rw [(ze_X4_checkVersion (nI k) g).trans (zu_X4_checkVersion_0 99999 (nI k) g), if_neg (nI_pos (by omega)), if_pos (show nI k < (2 : Int32) from nI_lt (b := 2) hk (by decide))]
theorem q_ckV_bad {g : zSG} {x : Int32} (hx : x < 0 ∨ nI 2 ≤ x) : zF_X4_checkVersion [.inl x] g = some (.inr 0, g) := by
  rw [(ze_X4_checkVersion x g).trans (zu_X4_checkVersion_0 99999 x g)]
  rcases hx with hx | hx
  · rw [if_pos hx]
  · by_cases h0 : x < 0
    · rw [if_pos h0]
    · rw [if_neg h0, if_neg (show ¬ x < (2 : Int32) from fun hc => (fa_of_lt hc).2.1 hx)]
theorem q_ckK_ok {g : zSG} {k : Nat} (hk : k < 4) : zF_X4_checkKind [.inl (nI k)] g = some (.inl none, g) := by
  rw [(ze_X4_checkKind (nI k) g).trans (zu_X4_checkKind_0 99999 (nI k) g), if_neg (nI_pos (by omega)), if_pos (show nI k < (4 : Int32) from nI_lt (b := 4) hk (by decide))]
theorem q_ckK_bad {g : zSG} {x : Int32} (hx : x < 0 ∨ nI 4 ≤ x) : zF_X4_checkKind [.inl x] g = some (.inr 0, g) := by
  rw [(ze_X4_checkKind x g).trans (zu_X4_checkKind_0 99999 x g)]
  rcases hx with hx | hx
  · rw [if_pos hx]
  · by_cases h0 : x < 0
    · rw [if_pos h0]
    · rw [if_neg h0, if_neg (show ¬ x < (4 : Int32) from fun hc => (fa_of_lt hc).2.1 hx)]
theorem q_ckF_ok {g : zSG} {k : Nat} (hk : k < 8) : zF_X4_checkField [.inl (nI k)] g = some (.inl none, g) := by
  rw [(ze_X4_checkField (nI k) g).trans (zu_X4_checkField_0 99999 (nI k) g), if_neg (nI_pos (by omega)), if_pos (show nI k < (8 : Int32) from nI_lt (b := 8) hk (by decide))]
theorem q_ckF_bad {g : zSG} {x : Int32} (hx : x < 0 ∨ nI 8 ≤ x) : zF_X4_checkField [.inl x] g = some (.inr 0, g) := by
  rw [(ze_X4_checkField x g).trans (zu_X4_checkField_0 99999 x g)]
  rcases hx with hx | hx
  · rw [if_pos hx]
  · by_cases h0 : x < 0
    · rw [if_pos h0]
    · rw [if_neg h0, if_neg (show ¬ x < (8 : Int32) from fun hc => (fa_of_lt hc).2.1 hx)]
theorem q_ckY_ok {g : zSG} {k : Nat} (hk : k < 8) : zF_X4_checkKey [.inl (nI k)] g = some (.inl none, g) := by
  rw [(ze_X4_checkKey (nI k) g).trans (zu_X4_checkKey_0 99999 (nI k) g), if_neg (nI_pos (by omega)), if_pos (show nI k < (8 : Int32) from nI_lt (b := 8) hk (by decide))]
theorem q_ckY_bad {g : zSG} {x : Int32} (hx : x < 0 ∨ nI 8 ≤ x) : zF_X4_checkKey [.inl x] g = some (.inr 1, g) := by
  rw [(ze_X4_checkKey x g).trans (zu_X4_checkKey_0 99999 x g)]
  rcases hx with hx | hx
  · rw [if_pos hx]
  · by_cases h0 : x < 0
    · rw [if_pos h0]
    · rw [if_neg h0, if_neg (show ¬ x < (8 : Int32) from fun hc => (fa_of_lt hc).2.1 hx)]
/-! the checks of the reference -/
theorem q_wi_ok {g : zSG} {x lo hi : Int32} (h1 : ¬ x < lo) (h2 : ¬ hi < x) : zF_X5_within [.inl x, .inl lo, .inl hi] g = some (.inl (some (.inl 1)), g) := by
  rw [(ze_X5_within x lo hi g).trans (zu_X5_within_0 99999 x lo hi g), if_neg h1, if_neg h2, q_11]
theorem q_wi_bad {g : zSG} {x lo hi : Int32} (h : x < lo ∨ hi < x) : zF_X5_within [.inl x, .inl lo, .inl hi] g = some (.inl (some (.inl 0)), g) := by
  rw [(ze_X5_within x lo hi g).trans (zu_X5_within_0 99999 x lo hi g)]
  rcases h with h | h
  · rw [if_pos h, q_00]
  · by_cases h0 : x < lo
    · rw [if_pos h0, q_00]
    · rw [if_neg h0, if_pos h, q_00]
theorem q_wn_ok {g : zSG} {k m : Nat} {hi : Int32} (he : hi = nI m) (hk : k ≤ m) (hm : m < 2 ^ 31) : zF_X5_within [.inl (nI k), .inl (0 : Int32), .inl hi] g = some (.inl (some (.inl 1)), g) := by
  subst he
  exact q_wi_ok (nI_pos (by omega)) (nI_nlt hk hm)
theorem q_wn_bad {g : zSG} {x : Int32} {m : Nat} {hi : Int32} (he : hi = nI m) (hx : x < 0 ∨ nI (m + 1) ≤ x) (hm : m + 1 < 2 ^ 31) : zF_X5_within [.inl x, .inl (0 : Int32), .inl hi] g = some (.inl (some (.inl 0)), g) := by
  subst he
  refine q_wi_bad ?_
  rcases hx with hx | hx
  · exact Or.inl hx
  · exact Or.inr (fa_trans (nI_lt (by omega) hm) hx)
theorem q_may1 {g : zSG} {c : Int32} (h : (g 3 0).1 0 = 0) : zF_X5_may [.inr (.inl (3, 0, 0)), .inl (1 : Int32), .inl c] g = some (.inl (some (.inl 1)), g) := by
  rw [(ze_X5_may 1 c g).trans (zu_X5_may_0 99999 1 c g), if_neg (by decide), if_pos h, q_11]
theorem q_may0 {g : zSG} {c : Int32} (h : (g 3 0).1 0 = 0) (hc : ¬ c = 0) : zF_X5_may [.inr (.inl (3, 0, 0)), .inl (0 : Int32), .inl c] g = some (.inl (some (.inl 0)), z_gI g 3 0 0 c) := by
  rw [(ze_X5_may 0 c g).trans (zu_X5_may_0 99999 0 c g), if_pos rfl, if_pos h, if_neg hc, q_00]
theorem q_isA_ok {g : zSG} {n k : Nat} (h : (g 3 0).1 0 = 0) (h16 : (g 3 0).1 16 = nI n) (hn : n ≤ 30) (hk : k < n) : zF_X5_isAsk [.inr (.inl (3, 0, 0)), .inl (nI k)] g = some (.inl (some (.inl 1)), g) := by
  obtain ⟨m, rfl⟩ : ∃ m, n = m + 1 := ⟨n - 1, by omega⟩
  rw [(ze_X5_isAsk (nI k) g).trans (zu_X5_isAsk_0 99999 (nI k) g), h16, nI_pred, q_wn_ok rfl (by omega) (by omega), q_bI, q_may1 h, q_bI, q_11]
theorem q_isA_bad {g : zSG} {n : Nat} {x : Int32} (h : (g 3 0).1 0 = 0) (h16 : (g 3 0).1 16 = nI n) (hn : n ≤ 30) (hx : x < 0 ∨ nI n ≤ x) : zF_X5_isAsk [.inr (.inl (3, 0, 0)), .inl x] g = some (.inl (some (.inl 0)), z_gI g 3 0 0 1) := by
  have e : zF_X5_within [.inl x, .inl (0 : Int32), .inl (nI n - 1)] g = some (.inl (some (.inl 0)), g) := by
    refine q_wi_bad ?_
    rcases hx with hx | hx
    · exact Or.inl hx
    · refine Or.inr (fa_trans (b := nI n) ?_ hx)
      rw [fa_lt, show (1 : Int32) = nI 1 from rfl, pk_sub_toInt (by omega) (by decide), nI_toInt (by omega)]
      omega
  rw [(ze_X5_isAsk x g).trans (zu_X5_isAsk_0 99999 x g), h16, e, q_bI, q_may0 h (by decide), q_bI, q_00]
theorem q_isV_ok {g : zSG} {v : Nat} (hv : v < 2) : zF_X5_isVersion [.inl (nI v)] g = some (.inl (some (.inl 1)), g) := by
  rw [(ze_X5_isVersion (nI v) g).trans (zu_X5_isVersion_0 99999 (nI v) g)]
  rcases (show v = 0 ∨ v = 1 by omega) with rfl | rfl
  · rw [if_pos (by decide), q_11]
  · rw [if_neg (by decide), if_pos (by decide), q_11]
theorem q_isV_bad {g : zSG} {x : Int32} (hx : x < 0 ∨ nI 2 ≤ x) : zF_X5_isVersion [.inl x] g = some (.inl (some (.inl 0)), g) := by
  rw [(ze_X5_isVersion x g).trans (zu_X5_isVersion_0 99999 x g), if_neg, if_neg, q_00]
  · rintro rfl
    exact absurd hx (by decide)
  · rintro rfl
    exact absurd hx (by decide)
theorem q_t0 (g : zSG) (v : Int32) : (z_gI g 3 0 0 v 3 0).1 0 = v := by
  rw [q_gI, q_O_get]
  first | exact pk_us | rfl
theorem q_t16 (g : zSG) (v : Int32) : (z_gI g 3 0 0 v 3 0).1 16 = (g 3 0).1 16 := by
  rw [q_gI, q_O_get]
  first | rfl | exact pk_un (by decide)
theorem q_tt (g : zSG) (v w : Int32) : z_gI (z_gI g 3 0 0 v) 3 0 0 w = z_gI g 3 0 0 w := by
  rw [q_gI, q_gI, q_gI, q_O_get, q_O_O]
  dsimp only
  rw [fa_upd_twice]
