/-! ===== pure part: the search of the program ===== -/
theorem q_pc_all {w : Nat} (hw : w ≤ 10) : q_pc (2 ^ w - 1) = w := by
  have h2 := Nat.two_pow_pos w
  show q_n1 (2 ^ w - 1) = w
  rw [q_n1_split (show w ≤ 32 by omega) (by omega)]
  exact fb_ct_all.mpr (fun k hk => q_ones hk)
theorem q_pc_lt {w s : Nat} (hw : w ≤ 10) (hs : s < 2 ^ w - 1) : q_pc s < w := by
  have h1 : q_n1 s = fb_ct (fun i => s.testBit i) w := q_n1_split (show w ≤ 32 by omega) (by omega)
  have h2 := fb_ct_le (fun i => s.testBit i) w
  show q_n1 s < w
  rw [h1]
  rcases Nat.lt_or_ge (fb_ct (fun i => s.testBit i) w) w with h | h
  · exact h
  · have h3 := fb_ct_all.mp (show fb_ct (fun i => s.testBit i) w = w by omega)
    have h4 : s = 2 ^ w - 1 := by
      apply Nat.eq_of_testBit_eq
      intro i
      rw [Nat.testBit_two_pow_sub_one]
      by_cases c : i < w
      · rw [decide_eq_true c]
        exact h3 i c
      · rw [decide_eq_false c]
        exact Nat.testBit_lt_two_pow (Nat.lt_of_lt_of_le (show s < 2 ^ w by omega) (Nat.pow_le_pow_right (by decide) (by omega)))
    omega
def q_ct : Nat → Int32
  | 0 => -1
  | t + 1 => nI t
theorem q_ct_s (t : Nat) : nI t + -1 = q_ct t := by
  cases t with
  | zero => rfl
  | succ t => exact pk_m1 t
def q_fu : Nat → Nat
  | 0 => 0
  | m + 1 => q_fu m + 2000
theorem q_fu_le : ∀ m, m ≤ 10 → q_fu m ≤ 20000 := by decide
section Ss
variable {P : qP} {n a p w : Nat} {nz : Nat → Int32}
def q_ST (P : qP) (n p : Nat) (nz : Nat → Int32) (g : zSG) : Prop := q_HX P n g ∧ (g 0 0).2 3 = nz ∧ q_tr P n 0 (p - 10) p (g 4 2) ∧ q_tr P n 1 (p - 10) p (g 4 3)
theorem q_ST_O {P : qP} {n p : Nat} {nz : Nat → Int32} {g : zSG} {y2 y3 : zLS} (h : q_ST P n p nz g) (t2 : q_tr P n 0 (p - 10) p y2) (t3 : q_tr P n 1 (p - 10) p y3) : q_ST P n p nz (q_O (q_O g 4 2 y2) 4 3 y3) := by
  refine ⟨h.1, h.2.1, ?_, ?_⟩
  · rw [q_O_i _ _ _ (by decide), q_O_get]
    exact t2
  · rw [q_O_get]
    exact t3
theorem q_O23 (g : zSG) (y2 y3 z2 z3 : zLS) : q_O (q_O (q_O (q_O g 4 2 y2) 4 3 y3) 4 2 z2) 4 3 z3 = q_O (q_O g 4 2 z2) 4 3 z3 := by
  rw [q_O_swap (q_O g 4 2 y2) (show (4 : Nat) ≠ 4 ∨ 3 ≠ 2 from Or.inr (by decide)) y3 z2, q_O_O, q_O_O]
theorem q_ss78 (hw : q_wP P n) (ha : a < n) (hp : p = q_pos P n a) (hww : w = min p 10) {z : Nat} (hz : z < w) (h1 : ∀ s', s' < 2 ^ w - 1 → q_pc s' < z → q_D P n nz a s' = false) : ∀ (c N : Nat) (g : zSG), c ≤ 2 ^ w - 1 → q_ST P n p nz g → (∀ s', c ≤ s' → s' < 2 ^ w - 1 → q_pc s' = z → q_D P n nz a s' = false) →
    ∃ N' y2 y3 f, N ≤ N' ∧ z_run zM_X4_smallSet zc_X4_smallSet zk_X4_smallSet (N + c + 2) 78 [(0, .inr (.inl (0, 0, 0))), (1, .inl (nI a)), (2, .inl (nI p)), (3, .inl (nI (p - 10))), (4, .inl (nI (2 ^ w - 1))), (5, .inl (nI (2 ^ w - 1))), (6, .inl (nI z)), (7, .inl (q_ct c))] g (0, 0) = z_run zM_X4_smallSet zc_X4_smallSet zk_X4_smallSet N' 57 [(0, .inr (.inl (0, 0, 0))), (1, .inl (nI a)), (2, .inl (nI p)), (3, .inl (nI (p - 10))), (4, .inl (nI (2 ^ w - 1))), (5, .inl (nI f)), (6, .inl (nI (z + 1)))] (q_O (q_O g 4 2 y2) 4 3 y3) (0, 0) ∧ q_ST P n p nz (q_O (q_O g 4 2 y2) 4 3 y3) ∧ ((f = 2 ^ w - 1 ∧ ∀ s', s' < 2 ^ w - 1 → q_pc s' ≤ z → q_D P n nz a s' = false) ∨ (f < 2 ^ w - 1 ∧ q_isS P n nz a f)) := by
  have hn := hw.1
  have hw10 : w ≤ 10 := by omega
  have h2w : 2 ^ w ≤ 2 ^ 10 := Nat.pow_le_pow_right (by decide) hw10
  have h2p := Nat.two_pow_pos w
  intro c
  induction c with
  | zero =>
    intro N g hc hS h2
    refine ⟨N + 1, g 4 2, g 4 3, 2 ^ w - 1, by omega, ?_, ?_, Or.inl ⟨rfl, fun s' hs' hp' => ?_⟩⟩
    · rw [show N + 0 + 2 = N + 1 + 1 from rfl, zu_X4_smallSet_78, if_pos (show q_ct 0 < 0 by decide), nI_1, q_O_self, q_O_self]
    · rw [q_O_self, q_O_self]
      exact hS
    · rcases Nat.lt_or_ge (q_pc s') z with h | h
      · exact h1 s' hs' h
      · exact h2 s' (by omega) hs' (by omega)
  | succ c ih =>
    intro N g hc hS h2
    have hcn : q_n1 c < 2 ^ 31 := by
      have h3 : q_pc c < w := q_pc_lt hw10 (by omega)
      have h4 : q_pc c = q_n1 c := rfl
      omega
    rw [show N + (c + 1) + 2 = (N + c + 2) + 1 by omega, zu_X4_smallSet_78, show q_ct (c + 1) = nI c from rfl, if_neg (nI_pos (by omega)), if_pos rfl, q_cnt (by omega), q_bI, q_ct_s]
    by_cases cz : q_n1 c = z
    · obtain ⟨y2, y3, e1, t2, t3⟩ := q_xdw hw ha hp (show c < 2 ^ 10 by omega) hS.1 hS.2.1 hS.2.2.1 hS.2.2.2
      rw [if_pos (by rw [cz]), e1, q_bI]
      have hS1 := q_ST_O hS t2 t3
      cases hD : q_D P n nz a c with
      | false =>
        rw [if_pos (show (if false = true then (1 : Int32) else 0) = 0 by decide)]
        obtain ⟨N', z2, z3, f, hN', e2, hS2, hf⟩ := ih N (q_O (q_O g 4 2 y2) 4 3 y3) (by omega) hS1 (fun s' h3 h4 h5 => by
          by_cases e : s' = c
          · subst e
            exact hD
          · exact h2 s' (by omega) h4 h5)
        rw [q_O23] at e2 hS2
        exact ⟨N', z2, z3, f, hN', e2, hS2, hf⟩
      | true =>
        rw [if_neg (show ¬ (if true = true then (1 : Int32) else 0) = 0 by decide)]
        have hisS : q_isS P n nz a c := by
          refine ⟨by rw [← hp, ← hww]; omega, hD, fun s' h3 h4 => ?_⟩
          rw [← hp, ← hww] at h3
          have hpc : q_pc c = z := cz
          by_cases e : s' = 2 ^ w - 1
          · subst e
            rw [q_pc_all hw10]
            exact Or.inl (by omega)
          · rcases Nat.lt_trichotomy (q_pc s') z with h5 | h5 | h5
            · rw [h1 s' (by omega) h5] at h4
              cases h4
            · right
              refine ⟨by omega, ?_⟩
              rcases Nat.lt_or_ge c s' with h6 | h6
              · rw [h2 s' (by omega) (by omega) h5] at h4
                cases h4
              · exact h6
            · exact Or.inl (by omega)
        refine ⟨N + c + 1, y2, y3, c, by omega, ?_, hS1, Or.inr ⟨by omega, hisS⟩⟩
        rw [show N + c + 2 = (N + c + 1) + 1 by omega, zu_X4_smallSet_78, nI_1]
        by_cases c0 : q_ct c < 0
        · rw [if_pos c0]
        · rw [if_neg c0, if_neg (fun hc2 => absurd ((nI_eq (by omega) (by omega)).mp hc2) (by omega))]
    · rw [if_neg (fun hc2 => cz ((nI_eq (by omega) (by omega)).mp hc2))]
      exact ih N g (by omega) hS (fun s' h3 h4 h5 => by
        by_cases e : s' = c
        · subst e
          exact absurd h5 cz
        · exact h2 s' (by omega) h4 h5)
theorem q_ss57 (hw : q_wP P n) (ha : a < n) (hp : p = q_pos P n a) (hww : w = min p 10) (hall : q_D P n nz a (2 ^ w - 1) = true) : ∀ (m z N : Nat) (g : zSG), z + m = w → q_fu m < N → q_ST P n p nz g → (∀ s', s' < 2 ^ w - 1 → q_pc s' < z → q_D P n nz a s' = false) →
    ∃ y2 y3 f, z_run zM_X4_smallSet zc_X4_smallSet zk_X4_smallSet N 57 [(0, .inr (.inl (0, 0, 0))), (1, .inl (nI a)), (2, .inl (nI p)), (3, .inl (nI (p - 10))), (4, .inl (nI (2 ^ w - 1))), (5, .inl (nI (2 ^ w - 1))), (6, .inl (nI z))] g (0, 0) = some (.inl (some (.inl (nI f))), q_O (q_O (q_O g 4 2 y2) 4 3 y3) 0 0 (upd (g 0 0).1 10 ((g 0 0).1 10 ||| nI (2 ^ a)), va_up (g 0 0).2 9 (upd ((g 0 0).2 9) a (nI f)))) ∧ q_ST P n p nz (q_O (q_O g 4 2 y2) 4 3 y3) ∧ q_isS P n nz a f := by
  have hn := hw.1
  have hw10 : w ≤ 10 := by omega
  have h2w : 2 ^ w ≤ 2 ^ 10 := Nat.pow_le_pow_right (by decide) hw10
  have h2p := Nat.two_pow_pos w
  have hpn := (q_pos_is P ha).1
  rw [← hp] at hpn
  have ew : nI p - nI (p - 10) = nI w := by rw [pk_sub (by omega), show p - (p - 10) = w by omega]
  have ia : z_inb (nI a) 30 := q_inb' (show a < 30 by omega) (by decide)
  intro m
  induction m with
  | zero =>
    intro z N g hz hN hS h1
    obtain ⟨N, rfl⟩ : ∃ N', N = N' + 1 := ⟨N - 1, by omega⟩
    refine ⟨g 4 2, g 4 3, 2 ^ w - 1, ?_, ?_, ?_⟩
    · rw [zu_X4_smallSet_57, ew, if_pos (nI_le (show w ≤ z by omega) (by omega)), if_pos ia, nI_clamp (by omega), q_shlI (by omega), q_O_self, q_O_self]
      simp only [q_gI, q_gA, q_O_get, q_O_O]
    · rw [q_O_self, q_O_self]
      exact hS
    · refine ⟨by rw [← hp, ← hww]; omega, hall, fun s' h3 h4 => ?_⟩
      rw [← hp, ← hww] at h3
      by_cases e : s' = 2 ^ w - 1
      · subst e
        exact Or.inr ⟨rfl, Nat.le_refl _⟩
      · have h5 := q_pc_lt hw10 (show s' < 2 ^ w - 1 by omega)
        rw [h1 s' (by omega) (by omega)] at h4
        cases h4
  | succ m ih =>
    intro z N g hz hN hS h1
    rw [q_fu] at hN
    obtain ⟨N, rfl⟩ : ∃ N', N = (N' + (2 ^ w - 1) + 2) + 1 := ⟨N - (2 ^ w - 1) - 3, by omega⟩
    obtain ⟨N', y2, y3, f, hN', e1, hS1, hf⟩ := q_ss78 hw ha hp hww (show z < w by omega) h1 (2 ^ w - 1) N g (Nat.le_refl _) hS (fun s' h3 h4 => absurd h4 (by omega))
    have ec : nI (2 ^ w - 1) - 1 = q_ct (2 ^ w - 1) := by
      rw [← q_ct_s]
      exact Int32.sub_eq_add_neg _ _
    rw [zu_X4_smallSet_57, ew, if_neg (nI_ge (show z < w by omega) (by omega)), if_pos rfl, ec, e1]
    rcases hf with ⟨rfl, hf⟩ | ⟨hf, hisS⟩
    · obtain ⟨z2, z3, f2, e2, hS2, hf2⟩ := ih (z + 1) N' (q_O (q_O g 4 2 y2) 4 3 y3) (by omega) (by omega) hS1 (fun s' h3 h4 => hf s' h3 (by omega))
      rw [q_O23] at e2 hS2
      exact ⟨z2, z3, f2, e2, hS2, hf2⟩
    · obtain ⟨N', rfl⟩ : ∃ N'', N' = N'' + 1 := ⟨N' - 1, by omega⟩
      refine ⟨y2, y3, f, ?_, hS1, hisS⟩
      have hfin : (if z_inb (nI a) 30 then some ((.inl (some (.inl (nI f))), (z_gI (z_gA (q_O (q_O g 4 2 y2) 4 3 y3) 0 0 9 (upd ((q_O (q_O g 4 2 y2) 4 3 y3 0 0).2 9) (nI a).toNatClampNeg (nI f))) 0 0 10 (((q_O (q_O g 4 2 y2) 4 3 y3 0 0).1 10) ||| ((1 : Int32) <<< (nI a &&& 31))))) : zRR) else none) = some (.inl (some (.inl (nI f))), q_O (q_O (q_O g 4 2 y2) 4 3 y3) 0 0 (upd (g 0 0).1 10 ((g 0 0).1 10 ||| nI (2 ^ a)), va_up (g 0 0).2 9 (upd ((g 0 0).2 9) a (nI f)))) := by
        rw [if_pos ia, nI_clamp (by omega), q_shlI (by omega)]
        simp only [q_gI, q_gA, q_O_get, q_O_O]
        rfl
      rw [zu_X4_smallSet_57, ew]
      by_cases c : nI w ≤ nI (z + 1)
      · rw [if_pos c]
        exact hfin
      · rw [if_neg c, if_neg (fun hc2 => absurd ((nI_eq (by omega) (by omega)).mp hc2) (by omega))]
        exact hfin
end Ss
/-- with all of them in -/
theorem q_D_all {P : qP} {n a : Nat} {nz : Nat → Int32} (ha : a < n) (h : q_wA P n nz a ≠ none) : q_D P n nz a (2 ^ min (q_pos P n a) 10 - 1) = true := by
  obtain ⟨hpn, hpa⟩ := q_pos_is P ha
  have key : ∀ v, (q_runF P v (q_lineF (q_tk P) n) (q_sl (q_pos P n a) (2 ^ min (q_pos P n a) 10 - 1)) n (q_S0 P 0)).2 a = (q_runF P v (q_lineF (q_tk P) n) (fun _ => true) n (q_S0 P 0)).2 a := by
    intro v
    have h1 := q_runF_after (P := P) (v := v) (sel := q_sl (q_pos P n a) (2 ^ min (q_pos P n a) 10 - 1)) (S := q_S0 P 0) hpn n (by omega) (Nat.le_refl _)
    have h2 := q_runF_after (P := P) (v := v) (sel := fun _ => true) (S := q_S0 P 0) hpn n (by omega) (Nat.le_refl _)
    rw [hpa] at h1 h2
    rw [h1, h2, q_runF_cong (sel' := fun _ => true) (q_pos P n a + 1) (fun j hj => ?_)]
    by_cases c1 : j < q_pos P n a - 10
    · exact q_sl_lo c1
    · by_cases c2 : j = q_pos P n a
      · subst c2
        exact q_sl_p
      · rw [q_sl_mid (by omega) (by omega)]
        exact q_ones (by omega)
  unfold q_D q_dif
  rw [key 0, key 1]
  exact Option.isSome_iff_ne_none.mpr h
theorem q_xset {P : qP} {n tp a : Nat} {g : zSG} (h : q_lk P n tp g) (ha : a < n) (hd : q_wA P n ((g 0 0).2 3) a ≠ none) : ∃ g' s, zF_X4_smallSet [.inr (.inl (0, 0, 0)), .inl (nI a)] g = some (.inl (some (.inl (nI s))), g') ∧ q_isS P n ((g 0 0).2 3) a s ∧ q_lk P n tp g' ∧ (g' 0 0).2 3 = (g 0 0).2 3 ∧ g' 2 = g 2 ∧ g' 3 = g 3 := by
  have h0 := h
  obtain ⟨⟨i1, i2, i3, i4, i5, i6, i7, i8, M, hM, m1, m2⟩, hf⟩ := h
  have hn := i1.1
  obtain ⟨hpn, hpa⟩ := q_pos_is P ha
  have eb := fa_bit (n := M) (j := a) (by omega)
  rw [(ze_X4_smallSet (nI a) g).trans (zu_X4_smallSet_0 99999 (nI a) g), m1, q_shlI (by omega)]
  cases hb : M.testBit a with
  | true =>
    obtain ⟨s, s1, s2⟩ := m2 a ha hb
    refine ⟨g, s, ?_, s2, h0, rfl, rfl, rfl⟩
    rw [if_neg (fun hc => by rw [eb.mp hc] at hb; cases hb), if_pos (q_inb' (show a < 30 by omega) (by decide)), nI_clamp (by omega), s1]
  | false =>
    have hmax : (if (0 : Int32) < nI (q_pos P n a) - 10 then nI (q_pos P n a) - 10 else 0) = nI (q_pos P n a - 10) := by
      by_cases c : 10 < q_pos P n a
      · rw [show (10 : Int32) = nI 10 from rfl, pk_sub (by omega), if_pos (show (0 : Int32) < nI (q_pos P n a - 10) from nI_lt (a := 0) (by omega) (by omega))]
      · have e : ¬ (0 : Int32) < nI (q_pos P n a) - 10 := by
          rw [fa_lt, show (10 : Int32) = nI 10 from rfl, pk_sub_toInt (by omega) (by decide)]
          show ¬ (0 : Int) < _
          omega
        rw [if_neg e, show q_pos P n a - 10 = 0 by omega]
        rfl
    obtain ⟨y2, y3, e1, t⟩ := q_xalw (f := q_pos P n a - 10) (show q_pos P n a - 10 ≤ n by omega) i1 i2 i3
    have hS : q_ST P n (q_pos P n a) ((g 0 0).2 3) (q_O (q_O g 4 2 y2) 4 3 y3) := by
      refine ⟨i2, rfl, ?_, ?_⟩
      · rw [q_O_i _ _ _ (by decide), q_O_get]
        exact (t _).1
      · rw [q_O_get]
        exact (t _).2
    obtain ⟨z2, z3, f, e2, hS2, hisS⟩ := q_ss57 (w := min (q_pos P n a) 10) i1 ha rfl rfl (q_D_all ha hd) (min (q_pos P n a) 10) 0 99998 (q_O (q_O g 4 2 y2) 4 3 y3) (by omega) (Nat.lt_of_le_of_lt (q_fu_le _ (Nat.min_le_right _ _)) (by decide)) hS (fun s' _ hc => absurd hc (by omega))
    rw [q_O23] at e2 hS2
    have e0 : (q_O (q_O g 4 2 y2) 4 3 y3 0 0) = g 0 0 := rfl
    rw [e0, m1, fa_or] at e2
    refine ⟨q_O (q_O (q_O g 4 2 z2) 4 3 z3) 0 0 (upd (g 0 0).1 10 (nI (M ||| 2 ^ a)), va_up (g 0 0).2 9 (upd ((g 0 0).2 9) a (nI f))), f, ?_, hisS, ⟨⟨i1, ?_, fun r hr => ?_, ?_, i5, i6, i7, i8, M ||| 2 ^ a, ?_, ?_, fun b hbn hbt => ?_⟩, ?_⟩, rfl, rfl, rfl⟩
    · rw [if_pos (eb.mpr hb), q_xplace hn i2.1.1 i2.2.1 ha, q_bI, q_max, q_bI, hmax, show (99999 : Nat) = 99998 + 1 from rfl, zu_X4_smallSet_36, e1, q_bV, pk_sub (show q_pos P n a - 10 ≤ q_pos P n a by omega), show q_pos P n a - (q_pos P n a - 10) = min (q_pos P n a) 10 by omega, q_full (by omega)]
      exact e2
    · exact i2
    · rcases (show r = 0 ∨ r = 1 ∨ r = 2 ∨ r = 3 by omega) with rfl | rfl | rfl | rfl
      · exact i3 0 (by decide)
      · exact i3 1 (by decide)
      · exact hS2.2.2.1.2.1
      · exact hS2.2.2.2.2.1
    · exact i4
    · exact Nat.or_lt_two_pow hM (Nat.pow_lt_pow_right (by decide) (by omega))
    · rfl
    · rw [fb_bit_set] at hbt
      by_cases c : b = a
      · subst c
        exact ⟨f, (show upd ((g 0 0).2 9) b (nI f) b = nI f from pk_us), hisS⟩
      · rw [decide_eq_false c, Bool.or_false] at hbt
        obtain ⟨s, s1, s2⟩ := m2 b hbn hbt
        exact ⟨s, (show upd ((g 0 0).2 9) a (nI f) b = nI s from (pk_un c).trans s1), s2⟩
    · exact hf
theorem q_isS_one {P : qP} {n a s s' : Nat} {nz : Nat → Int32} (h : q_isS P n nz a s) (h' : q_isS P n nz a s') : s = s' := by
  have h1 := h.2.2 s' h'.1 h'.2.1
  have h2 := h'.2.2 s h.1 h.2.1
  omega
