/-! ===== pure part: the search of the reference, small, smallest ===== -/
section Fs
variable {P : qP} {n tp a p w : Nat} {nz : Nat → Int32}
theorem q_fs17 {g : zSG} (hn : n ≤ 30) (ha : a < n) (h25 : ∀ j, j < n → (g 3 0).2 25 j = nI (q_lineF (q_tk P) n j)) : ∀ (m k N : Nat), k + m = q_pos P n a → (∀ i, i < k → q_lineF (q_tk P) n i ≠ a) → z_run zM_X5_findSmall zc_X5_findSmall zk_X5_findSmall (N + m + 1) 17 [(0, .inr (.inl (3, 0, 0))), (1, .inl (nI a)), (2, .inl (nI k))] g (0, 0) = z_run zM_X5_findSmall zc_X5_findSmall zk_X5_findSmall N 68 [(0, .inr (.inl (3, 0, 0))), (1, .inl (nI a)), (3, .inl (nI (2 ^ a))), (4, .inl (0 : Int32))] (q_O g 3 0 (upd (upd (g 3 0).1 45 (nI (q_pos P n a - 10))) 46 (nI (min (q_pos P n a) 10)), (g 3 0).2)) (0, 0) := by
  obtain ⟨hpn, hpa⟩ := q_pos_is P ha
  intro m
  induction m with
  | zero =>
    intro k N hk hb
    have e : k = q_pos P n a := by omega
    subst e
    rw [zu_X5_findSmall_17, if_pos (q_inb' (show q_pos P n a < 30 by omega) (by decide)), nI_clamp (by omega), h25 _ hpn, hpa, if_pos rfl, q_shlI (by omega)]
    by_cases c : q_pos P n a ≤ 10
    · rw [if_pos (show nI (q_pos P n a) ≤ (10 : Int32) from nI_le (b := 10) c (by decide)), show nI (q_pos P n a) - (0 : Int32) = nI (min (q_pos P n a) 10) by rw [show (0 : Int32) = nI 0 from rfl, pk_sub (by omega), show q_pos P n a - 0 = min (q_pos P n a) 10 by omega], show (0 : Int32) = nI (q_pos P n a - 10) by rw [show q_pos P n a - 10 = 0 by omega]; rfl]
      simp only [q_gI, q_O_get, q_O_O]
    · have e1 : nI (q_pos P n a) - (10 : Int32) = nI (q_pos P n a - 10) := by rw [show (10 : Int32) = nI 10 from rfl, pk_sub (by omega)]
      rw [if_neg (show ¬ nI (q_pos P n a) ≤ (10 : Int32) from nI_ge (a := 10) (by omega) (by omega)), e1, pk_sub (by omega), show q_pos P n a - (q_pos P n a - 10) = min (q_pos P n a) 10 by omega]
      simp only [q_gI, q_O_get, q_O_O]
  | succ m ih =>
    intro k N hk hb
    have hl := q_line_lt (q_tk P) n k (by omega)
    have hne : q_lineF (q_tk P) n k ≠ a := fun hc => by
      have := q_line_eq P (show k < n by omega) hpn (hc.trans hpa.symm)
      omega
    rw [zu_X5_findSmall_17, if_pos (q_inb' (show k < 30 by omega) (by decide)), nI_clamp (by omega), h25 k (by omega), if_neg (fun hc => hne ((nI_eq (by omega) (by omega)).mp hc)), nI_1]
    exact ih (k + 1) N (by omega) (fun i hi => by
      by_cases e : i = k
      · subst e
        exact hne
      · exact hb i (by omega))
/-- bits of the asks always in -/
def q_mm (P : qP) (n p : Nat) (sel : Nat → Bool) (k M : Nat) : Prop := M < 2 ^ 30 ∧ ∀ j, j < n → (M.testBit (q_lineF (q_tk P) n j) = true ↔ (j = p ∨ (j < k ∧ sel j = true)))
theorem q_mm_or {sel : Nat → Bool} {k M : Nat} (hn : n ≤ 30) (hk : k < n) (h : q_mm P n p sel k M) (hs : sel k = true) : q_mm P n p sel (k + 1) (M ||| 2 ^ q_lineF (q_tk P) n k) := by
  have hl := q_line_lt (q_tk P) n k hk
  refine ⟨Nat.or_lt_two_pow h.1 (Nat.pow_lt_pow_right (by decide) (by omega)), fun j hj => ?_⟩
  rw [fb_bit_set]
  by_cases c : j = k
  · subst c
    simp only [decide_true, Bool.or_true, true_iff]
    exact Or.inr ⟨by omega, hs⟩
  · rw [decide_eq_false (fun hc => c (q_line_eq P hj hk hc)), Bool.or_false, h.2 j hj]
    constructor
    · rintro (h1 | ⟨h1, h2⟩)
      · exact Or.inl h1
      · exact Or.inr ⟨by omega, h2⟩
    · rintro (h1 | ⟨h1, h2⟩)
      · exact Or.inl h1
      · exact Or.inr ⟨by omega, h2⟩
theorem q_mm_no {sel : Nat → Bool} {k M : Nat} (h : q_mm P n p sel k M) (hs : sel k = false) : q_mm P n p sel (k + 1) M := by
  refine ⟨h.1, fun j hj => (h.2 j hj).trans ⟨?_, ?_⟩⟩
  · rintro (h1 | ⟨h1, h2⟩)
    · exact Or.inl h1
    · exact Or.inr ⟨by omega, h2⟩
  · rintro (h1 | ⟨h1, h2⟩)
    · exact Or.inl h1
    · refine Or.inr ⟨?_, h2⟩
      by_cases c : j = k
      · subst c
        rw [hs] at h2
        cases h2
      · omega
theorem q_fs68 {g : zSG} (hn : n ≤ 30) (hp : p < n) (h25 : ∀ j, j < n → (g 3 0).2 25 j = nI (q_lineF (q_tk P) n j)) (h45 : (g 3 0).1 45 = nI (p - 10)) (h46 : (g 3 0).1 46 = nI (min p 10)) {x1 : Int32} {s : Nat} : ∀ (m k N M : Nat), k + m = p - 10 → q_mm P n p (q_sl p s) k M → ∃ M', z_run zM_X5_findSmall zc_X5_findSmall zk_X5_findSmall (N + m + 1) 68 [(0, .inr (.inl (3, 0, 0))), (1, .inl x1), (3, .inl (nI M)), (4, .inl (nI k))] g (0, 0) = z_run zM_X5_findSmall zc_X5_findSmall zk_X5_findSmall N 116 [(0, .inr (.inl (3, 0, 0))), (1, .inl x1), (3, .inl (nI M')), (4, .inl (nI (2 ^ min p 10 - 1)))] (q_O g 3 0 (upd (upd (g 3 0).1 43 11) 44 0, (g 3 0).2)) (0, 0) ∧ q_mm P n p (q_sl p s) (p - 10) M' := by
  intro m
  induction m with
  | zero =>
    intro k N M hk hM
    have e : k = p - 10 := by omega
    subst e
    refine ⟨M, ?_, hM⟩
    rw [zu_X5_findSmall_68, h45, h46, if_pos (nI_le (Nat.le_refl _) (by omega)), q_full (by omega)]
    simp only [q_gI, q_O_get, q_O_O]
  | succ m ih =>
    intro k N M hk hM
    have hl := q_line_lt (q_tk P) n k (by omega)
    rw [zu_X5_findSmall_68, h45, if_neg (nI_ge (by omega) (by omega)), if_pos (q_inb' (show k < 30 by omega) (by decide)), nI_clamp (by omega), h25 k (by omega), q_shlI (by omega), fa_or, nI_1]
    exact ih (k + 1) N _ (by omega) (q_mm_or hn (by omega) hM (q_sl_lo (by omega)))
theorem q_sl_low {p s s' k M : Nat} (hk : k ≤ p - 10) (h : q_mm P n p (q_sl p s) k M) : q_mm P n p (q_sl p s') k M := by
  refine ⟨h.1, fun j hj => (h.2 j hj).trans ⟨?_, ?_⟩⟩
  · rintro (h1 | ⟨h1, h2⟩)
    · exact Or.inl h1
    · exact Or.inr ⟨h1, q_sl_lo (by omega)⟩
  · rintro (h1 | ⟨h1, h2⟩)
    · exact Or.inl h1
    · exact Or.inr ⟨h1, q_sl_lo (by omega)⟩
/-- bits below w, from the highest -/
theorem q_fs130 {g : zSG} (hn : n ≤ 30) (hp : p < n) (h25 : ∀ j, j < n → (g 3 0).2 25 j = nI (q_lineF (q_tk P) n j)) (h45 : (g 3 0).1 45 = nI (p - 10)) (h46 : (g 3 0).1 46 = nI (min p 10)) {x1 x3 : Int32} {s : Nat} (hs : s < 2 ^ min p 10) : ∀ (m k N M : Nat), k + m = min p 10 → q_mm P n p (q_sl p s) (p - 10 + k) M → ∃ M' c, z_run zM_X5_findSmall zc_X5_findSmall zk_X5_findSmall (N + m) 130 [(0, .inr (.inl (3, 0, 0))), (1, .inl x1), (3, .inl x3), (4, .inl (nI s)), (5, .inl (nI M)), (6, .inl (nI (fb_ct (fun i => s.testBit (min p 10 - 1 - i)) k))), (7, .inl (nI k))] g (0, 0) = z_run zM_X5_findSmall zc_X5_findSmall zk_X5_findSmall N 130 [(0, .inr (.inl (3, 0, 0))), (1, .inl x1), (3, .inl x3), (4, .inl (nI s)), (5, .inl (nI M')), (6, .inl (nI c)), (7, .inl (nI (min p 10)))] g (0, 0) ∧ q_mm P n p (q_sl p s) p M' ∧ c = fb_ct (fun i => s.testBit (min p 10 - 1 - i)) (min p 10) := by
  have h2w : 2 ^ min p 10 ≤ 2 ^ 10 := Nat.pow_le_pow_right (by decide) (by omega)
  intro m
  induction m with
  | zero =>
    intro k N M hk hM
    have e : k = min p 10 := by omega
    subst e
    refine ⟨M, _, rfl, ?_, rfl⟩
    rw [show p = p - 10 + min p 10 by omega] at *
    rw [show p - 10 + min p 10 - 10 + min (p - 10 + min p 10) 10 = p - 10 + min p 10 by omega] at hM
    exact hM
  | succ m ih =>
    intro k N M hk hM
    have hl := q_line_lt (q_tk P) n (p - 10 + k) (by omega)
    have e1 : nI (min p 10) - 1 - nI k = nI (min p 10 - 1 - k) := by
      rw [show (1 : Int32) = nI 1 from rfl, pk_sub (by omega), pk_sub (by omega)]
    have e2 : nI (p - 10) + nI k = nI (p - 10 + k) := nI_add _ _
    have hb := q_bit (M := s) (a := min p 10 - 1 - k) (by omega) (by omega)
    have hsel : q_sl p s (p - 10 + k) = s.testBit (min p 10 - 1 - k) := by
      rw [q_sl_mid (by omega) (by omega), show p - 1 - (p - 10 + k) = min p 10 - 1 - k by omega]
    rw [show N + (m + 1) = (N + m) + 1 by omega, zu_X5_findSmall_130, h45, h46, if_neg (nI_ge (by omega) (by omega)), e1, e2, if_pos (q_inb' (show p - 10 + k < 30 by omega) (by decide)), nI_clamp (show p - 10 + k < 2 ^ 31 by omega), h25 _ (by omega), q_shlI (by omega), fa_or, nI_1, nI_1]
    cases ht : s.testBit (min p 10 - 1 - k) with
    | false =>
      have e3 : (nI s >>> (nI (min p 10 - 1 - k) &&& 31)) &&& (1 : Int32) = 0 := by
        rcases q_and1 (nI s >>> (nI (min p 10 - 1 - k) &&& 31)) with h | h
        · exact h
        · rw [hb.mp h] at ht
          cases ht
      rw [if_pos e3]
      have ih1 := ih (k + 1) N M (by omega) (by rw [show p - 10 + (k + 1) = p - 10 + k + 1 by omega]; exact q_mm_no hM (hsel.trans ht))
      rw [fb_ct_succ, ht] at ih1
      exact ih1
    | true =>
      rw [if_neg (show ¬ (nI s >>> (nI (min p 10 - 1 - k) &&& 31)) &&& (1 : Int32) = 0 by rw [hb.mpr ht]; decide)]
      have ih1 := ih (k + 1) N _ (by omega) (by rw [show p - 10 + (k + 1) = p - 10 + k + 1 by omega]; exact q_mm_or hn (by omega) hM (hsel.trans ht))
      rw [fb_ct_succ, ht] at ih1
      exact ih1
theorem q_ct_rev (f : Nat → Bool) : ∀ w, fb_ct (fun i => f (w - 1 - i)) w = fb_ct f w
  | 0 => rfl
  | w + 1 => by
    rw [fb_ct_succ f w, ← q_ct_rev f w, show w + 1 = 1 + w by omega, fb_ct_split]
    have e1 : fb_ct (fun i => f (1 + w - 1 - i)) 1 = if f w then 1 else 0 := by
      show 0 + (if f (1 + w - 1 - 0) then 1 else 0) = _
      rw [Nat.zero_add, show 1 + w - 1 - 0 = w by omega]
    have e2 : fb_ct (fun k => (fun i => f (1 + w - 1 - i)) (1 + k)) w = fb_ct (fun i => f (w - 1 - i)) w := fb_ct_cong (fun k hk => by
      dsimp only
      rw [show 1 + w - 1 - (1 + k) = w - 1 - k by omega])
    rw [e1, e2]
    omega
/-- what the reference holds while it searches -/
def q_MS (P : qP) (n tp a : Nat) (nz : Nat → Int32) (g : zSG) : Prop := q_INV P n tp g ∧ (g 3 0).1 0 = 0 ∧ (g 0 0).2 3 = nz ∧ (g 3 0).1 35 = nI n ∧ (∀ j, j < n → (g 3 0).2 25 j = nI (q_lineF (q_tk P) n j)) ∧ (g 3 0).1 45 = nI (q_pos P n a - 10) ∧ (g 3 0).1 46 = nI (min (q_pos P n a) 10)
def q_bb (P : qP) (n a p : Nat) (nz : Nat → Int32) (c : Nat) (y : zLS) : Prop := (y.1 43 = nI 11 ∧ c = 2 ^ min p 10 ∧ q_D P n nz a (2 ^ min p 10 - 1) = true) ∨ ∃ b, c ≤ b ∧ y.1 44 = nI b ∧ y.1 43 = nI (q_pc b) ∧ b < 2 ^ min p 10 ∧ q_D P n nz a b = true ∧ ∀ s', c ≤ s' → s' < 2 ^ min p 10 → q_D P n nz a s' = true → q_pc b < q_pc s' ∨ (q_pc b = q_pc s' ∧ s' ≤ b)
theorem q_pc_le {w s : Nat} (hw : w ≤ 10) (hs : s < 2 ^ w) : q_pc s ≤ 10 := by
  by_cases e : s = 2 ^ w - 1
  · rw [e, q_pc_all hw]
    exact hw
  · have := q_pc_lt hw (show s < 2 ^ w - 1 by omega)
    omega
theorem q_fs116 (ha : a < n) (hp : p = q_pos P n a) {x3 : Nat} : ∀ (c N : Nat) (g : zSG), c ≤ 2 ^ min p 10 → c * 40 + 40 < N → q_MS P n tp a nz g → q_mm P n p (q_sl p 0) (p - 10) x3 → q_bb P n a p nz c (g 3 0) →
    ∃ y' b, z_run zM_X5_findSmall zc_X5_findSmall zk_X5_findSmall N 116 [(0, .inr (.inl (3, 0, 0))), (1, .inl (nI a)), (3, .inl (nI x3)), (4, .inl (q_ct c))] g (0, 0) = some (.inl (some (.inl 1)), q_O g 3 0 y') ∧ q_MS P n tp a nz (q_O g 3 0 y') ∧ y'.1 44 = nI b ∧ y'.1 43 = nI (q_pc b) ∧ q_isS P n nz a b := by
  obtain ⟨hpn, hpa⟩ := q_pos_is P ha
  rw [← hp] at hpn hpa
  have h2w : 2 ^ min p 10 ≤ 2 ^ 10 := Nat.pow_le_pow_right (by decide) (by omega)
  have h2p := Nat.two_pow_pos (min p 10)
  intro c
  induction c with
  | zero =>
    intro N g hc hN hS hx3 hb
    obtain ⟨N, rfl⟩ : ∃ N', N = N' + 1 := ⟨N - 1, by omega⟩
    rcases hb with ⟨-, hb, -⟩ | ⟨b, -, b1, b2, b3, b4, b5⟩
    · omega
    · refine ⟨g 3 0, b, ?_, ?_, b1, b2, by rw [← hp]; exact b3, b4, fun s' h1 h2 => b5 s' (by omega) (by rw [hp]; exact h1) h2⟩
      · rw [zu_X5_findSmall_116, if_pos (show q_ct 0 < 0 by decide), q_11, q_O_self]
      · rw [q_O_self]
        exact hS
  | succ c ih =>
    intro N g hc hN hS hx3 hb
    have hS0 := hS
    obtain ⟨hI, ht0, hnz, h35, h25, h45, h46⟩ := hS
    rw [← hp] at h45 h46
    have hn := hI.1.1
    obtain ⟨N, rfl⟩ : ∃ N', N = (N' + 1 + min p 10) + 1 := ⟨N - 2 - min p 10, by omega⟩
    obtain ⟨M', cc, e1, hM', hcc⟩ := q_fs130 (g := g) hn hpn h25 h45 h46 (x1 := nI a) (x3 := nI x3) (s := c) (by omega) (min p 10) 0 (N + 1) x3 (by omega) (by rw [Nat.add_zero]; exact q_sl_low (Nat.le_refl _) hx3)
    have epc : cc = q_pc c := by
      rw [hcc, q_ct_rev (fun i => c.testBit i)]
      exact (q_n1_split (show min p 10 ≤ 32 by omega) (by omega)).symm
    have hpc10 : q_pc c ≤ 10 := q_pc_le (w := min p 10) (by omega) (by omega)
    obtain ⟨sm, hsm, hsm11⟩ : ∃ sm, (g 3 0).1 43 = nI sm ∧ sm ≤ 11 := by
      rcases hb with ⟨hb, -, -⟩ | ⟨b, -, -, b2, b3, -⟩
      · exact ⟨11, hb, by decide⟩
      · exact ⟨q_pc b, b2, by have := q_pc_le (w := min p 10) (by omega) b3; omega⟩
    rw [zu_X5_findSmall_116, show q_ct (c + 1) = nI c from rfl, if_neg (nI_pos (by omega))]
    rw [show z_run zM_X5_findSmall zc_X5_findSmall zk_X5_findSmall (N + 1 + min p 10) 130 [(0, .inr (.inl (3, 0, 0))), (1, .inl (nI a)), (3, .inl (nI x3)), (4, .inl (nI c)), (5, .inl (nI x3)), (6, .inl (0 : Int32)), (7, .inl (0 : Int32))] g (0, 0) = _ from e1, zu_X5_findSmall_130, h46, if_pos (nI_le (Nat.le_refl _) (by omega)), hsm, epc, q_ct_s]
    by_cases c1 : q_pc c < sm
    · rw [if_pos (nI_lt c1 (by omega))]
      have hsel : ∀ j, j < n → M'.testBit (q_lineF (q_tk P) n j) = q_sl p c j := by
        intro j hj
        have h1 := hM'.2 j hj
        by_cases e : q_sl p c j = true
        · rw [e, h1]
          by_cases c2 : j = p
          · exact Or.inl c2
          · refine Or.inr ⟨?_, e⟩
            rcases Nat.lt_or_ge j p with h | h
            · exact h
            · rw [q_sl_hi (by omega)] at e
              cases e
        · rw [Bool.eq_false_iff.mpr e, Bool.eq_false_iff]
          intro hc2
          rcases h1.mp hc2 with h2 | ⟨h2, h3⟩
          · subst h2
            exact e q_sl_p
          · exact e h3
      obtain ⟨y1, e2, r1, r2, p1, z1⟩ := q_mboth (P := P) (n := n) (M := M') (g := g) (L := q_lineF (q_tk P) n) (sel := q_sl p c) hI.1 (by have := hM'.1; omega) (fun j hj => q_line_lt _ n j hj) hsel hI.2.2.2.2.1 h35 h25 hI.2.2.2.2.2.1
      obtain ⟨E, hE⟩ := q_runF_some (P := P) (v := 0) (L := q_lineF (q_tk P) n) (sel := q_sl p c) (S := q_S0 P 0) (j := p) q_sl_p n hpn
      obtain ⟨E', hE'⟩ := q_runF_some (P := P) (v := 1) (L := q_lineF (q_tk P) n) (sel := q_sl p c) (S := q_S0 P 0) (j := p) q_sl_p n hpn
      rw [hpa] at hE hE'
      have h3 := r1.2.2 a ha
      rw [hE'] at h3
      have hI1 : q_INV P n tp (q_O g 3 0 y1) := q_INV_M hI (q_pw_pb p1) z1
      have e3 := q_mul (g := q_O g 3 0 y1) (nz := nz) (show a < 30 by omega) (hI.1.2.1 a ha).1 (by rw [q_O_get]; exact r2 a ha E hE) (by rw [q_O_get]; exact h3.2) (hI1.2.2.2.2.1.2.1 a ha).1 (fun j hj => by rw [← hnz]; exact (hI1.2.2.2.2.2.2.2.1 j hj).1.symm)
      have hwh : ∀ w, q_wh nz (q_kd P a) E E' = some w → w < 8 := fun w hw => by
        obtain ⟨m, hm, l, -⟩ := r2 a ha E hE
        obtain ⟨-, m', hm', l', -⟩ := h3
        exact q_wh_lt (by rw [q_ln_of l hm]; exact hm) (by rw [q_ln_of l' hm']; exact hm') hw
      have eD : q_D P n nz a c = (q_wh nz (q_kd P a) E E').isSome := by
        unfold q_D q_dif
        rw [← hp, hE, hE']
        rfl
      have hS1 : ∀ u v : Int32, q_MS P n tp a nz (q_O g 3 0 (upd (upd y1.1 43 u) 44 v, y1.2)) := fun u v => by
        have hp1 : q_pw (g 3 0) (upd (upd y1.1 43 u) 44 v, y1.2) := q_pw_int (y' := (upd y1.1 43 u, y1.2)) (q_pw_int (q_pw_pb p1) (by decide) (by decide)) (by decide) (by decide)
        refine ⟨q_INV_M hI hp1 z1, ?_, hnz, ?_, ?_, ?_, ?_⟩
        · rw [q_O_get]
          exact (p1.1 0 (by decide) (by decide) (by decide)).trans ht0
        · rw [q_O_get]
          exact (p1.1 35 (by decide) (by decide) (by decide)).trans h35
        · rw [q_O_get]
          intro j hj
          show y1.2 25 j = _
          rw [p1.2 25 (by decide)]
          exact h25 j hj
        · rw [q_O_get, ← hp]
          exact (p1.1 45 (by decide) (by decide) (by decide)).trans h45
        · rw [q_O_get, ← hp]
          exact (p1.1 46 (by decide) (by decide) (by decide)).trans h46
      rw [e2, q_bV, e3, q_bI]
      cases hq : q_wh nz (q_kd P a) E E' with
      | none =>
        rw [if_pos (show q_cI none = -1 from rfl)]
        rw [hq] at eD
        have hSn : q_MS P n tp a nz (q_O g 3 0 y1) := by
          have h4 := hS1 (y1.1 43) (y1.1 44)
          rw [fa_upd_same (f := y1.1) (i := 43) rfl, fa_upd_same (f := y1.1) (i := 44) rfl] at h4
          exact h4
        obtain ⟨y', b', e4, q1, q2, q3, q4⟩ := ih N (q_O g 3 0 y1) (by omega) (by omega) hSn hx3 (by
          rcases hb with ⟨-, hb2, hb3⟩ | ⟨b, b0, b1, b2, b3, b4, b5⟩
          · rw [show 2 ^ min p 10 - 1 = c by omega, eD] at hb3
            cases hb3
          · refine Or.inr ⟨b, by omega, by rw [q_O_get]; exact (p1.1 44 (by decide) (by decide) (by decide)).trans b1, by rw [q_O_get]; exact (p1.1 43 (by decide) (by decide) (by decide)).trans b2, b3, b4, fun s' h5 h6 h7 => ?_⟩
            by_cases e : s' = c
            · subst e
              rw [eD] at h7
              cases h7
            · exact b5 s' (by omega) h6 h7)
        rw [q_O_O] at e4 q1
        exact ⟨y', b', e4, q1, q2, q3, q4⟩
      | some wv =>
        rw [hq] at eD
        rw [if_neg (show ¬ q_cI (some wv) = -1 from q_nI_m1 (by have := hwh wv hq; omega))]
        simp only [q_gI, q_O_get, q_O_O]
        obtain ⟨y', b', e4, q1, q2, q3, q4⟩ := ih N (q_O g 3 0 (upd (upd y1.1 43 (nI (q_pc c))) 44 (nI c), y1.2)) (by omega) (by omega) (hS1 _ _) hx3 (Or.inr ⟨c, Nat.le_refl _, by rw [q_O_get]; first | exact pk_us | rfl, by rw [q_O_get]; rfl, by omega, eD, fun s' h5 h6 h7 => by
          by_cases e : s' = c
          · subst e
            exact Or.inr ⟨rfl, Nat.le_refl _⟩
          · rcases hb with ⟨-, hb2, -⟩ | ⟨b, b0, b1, b2, b3, b4, b5⟩
            · omega
            · have hsb : sm = q_pc b := (nI_eq (by omega) (by have := q_pc_le (w := min p 10) (by omega) b3; omega)).mp (hsm.symm.trans b2)
              rcases b5 s' (by omega) h6 h7 with h8 | ⟨h8, h9⟩
              · exact Or.inl (by omega)
              · exact Or.inl (by omega)⟩)
        rw [q_O_O] at e4 q1
        exact ⟨y', b', e4, q1, q2, q3, q4⟩
    · rw [if_neg (nI_nlt (by omega) (by omega))]
      exact ih N g (by omega) (by omega) hS0 hx3 (by
        rcases hb with ⟨hb1, hb2, -⟩ | ⟨b, b0, b1, b2, b3, b4, b5⟩
        · have hsb : sm = 11 := (nI_eq (by omega) (by decide)).mp (hsm.symm.trans hb1)
          omega
        · have hsb : sm = q_pc b := (nI_eq (by omega) (by have := q_pc_le (w := min p 10) (by omega) b3; omega)).mp (hsm.symm.trans b2)
          refine Or.inr ⟨b, by omega, b1, b2, b3, b4, fun s' h5 h6 h7 => ?_⟩
          by_cases e : s' = c
          · subst e
            rcases Nat.lt_or_ge (q_pc b) (q_pc s') with h8 | h8
            · exact Or.inl h8
            · exact Or.inr ⟨by omega, by omega⟩
          · exact b5 s' (by omega) h6 h7)
end Fs
/-- the reference's search -/
theorem q_mfs {P : qP} {n tp a : Nat} {g : zSG} (h : q_INV P n tp g) (h0 : (g 3 0).1 0 = 0) (ha : a < n) : ∃ y', (q_wA P n ((g 0 0).2 3) a = none ∧ zF_X5_findSmall [.inr (.inl (3, 0, 0)), .inl (nI a)] g = some (.inl (some (.inl 0)), q_O g 3 0 y') ∧ q_INV P n tp (q_O g 3 0 y') ∧ y'.1 0 = 0) ∨ (q_wA P n ((g 0 0).2 3) a ≠ none ∧ zF_X5_findSmall [.inr (.inl (3, 0, 0)), .inl (nI a)] g = some (.inl (some (.inl 1)), q_O g 3 0 y') ∧ q_MS P n tp a ((g 0 0).2 3) (q_O g 3 0 y') ∧ ∃ b, y'.1 44 = nI b ∧ y'.1 43 = nI (q_pc b) ∧ q_isS P n ((g 0 0).2 3) a b) := by
  have hn := h.1.1
  obtain ⟨hpn, hpa⟩ := q_pos_is P ha
  have h2w : 2 ^ min (q_pos P n a) 10 ≤ 2 ^ 10 := Nat.pow_le_pow_right (by decide) (by omega)
  have h2p := Nat.two_pow_pos (min (q_pos P n a) 10)
  obtain ⟨y1, e1, r1, r2, t1, hI1, l35, l25⟩ := q_mbothall h h0
  have em := q_mwA hI1 (by rw [q_O_get]; exact r1) (by rw [q_O_get]; exact r2) ha
  have hF := (ze_X5_findSmall (nI a) g).trans (zu_X5_findSmall_0 99999 (nI a) g)
  rw [e1, q_bV, em, q_bI, show (q_O g 3 0 y1 0 0).2 3 = (g 0 0).2 3 from rfl] at hF
  cases hq : q_wA P n ((g 0 0).2 3) a with
  | none =>
    rw [hq, if_pos (show q_cI none = -1 from rfl), q_00] at hF
    exact ⟨y1, Or.inl ⟨rfl, hF, hI1, t1⟩⟩
  | some w =>
    have hw8 : w < 8 := by
      obtain ⟨E, hE⟩ := q_RA_some P (n := n) (v := 0) 0 ha
      obtain ⟨E', hE'⟩ := q_RA_some P (n := n) (v := 1) 0 ha
      rw [q_wA_is hE hE'] at hq
      have h3 := r1.2.2 a ha
      rw [hE'] at h3
      obtain ⟨m, hm, l, -⟩ := r2 a ha E hE
      obtain ⟨-, m', hm', l', -⟩ := h3
      exact q_wh_lt (by rw [q_ln_of l hm]; exact hm) (by rw [q_ln_of l' hm']; exact hm') hq
    rw [hq, if_neg (show ¬ q_cI (some w) = -1 from q_nI_m1 (by omega))] at hF
    have e17 := q_fs17 (g := q_O g 3 0 y1) hn ha (by rw [q_O_get]; exact l25) (q_pos P n a) 0 (99999 - q_pos P n a - 1) (by omega) (fun i hi => absurd hi (by omega))
    rw [q_O_get, q_O_O, show 99999 - q_pos P n a - 1 + q_pos P n a + 1 = 99999 by omega] at e17
    have hla := q_line_lt (q_tk P) n (q_pos P n a) hpn
    obtain ⟨M', e68, hM'⟩ := q_fs68 (P := P) (n := n) (p := q_pos P n a) (g := q_O g 3 0 (upd (upd y1.1 45 (nI (q_pos P n a - 10))) 46 (nI (min (q_pos P n a) 10)), y1.2)) (x1 := nI a) (s := 0) hn hpn (by rw [q_O_get]; exact l25) (by rw [q_O_get]; rfl) (by rw [q_O_get]; first | exact pk_us | rfl) (q_pos P n a - 10) 0 (99999 - q_pos P n a - 1 - (q_pos P n a - 10) - 1) (2 ^ a) (by omega) ⟨Nat.pow_lt_pow_right (by decide) (by omega), fun j hj => by
      rw [Nat.testBit_two_pow]
      simp only [decide_eq_true_eq]
      constructor
      · intro hc
        exact Or.inl (q_line_eq P hj hpn (hc.symm.trans hpa.symm))
      · rintro (rfl | ⟨hc, -⟩)
        · exact hpa.symm
        · omega⟩
    rw [q_O_get, q_O_O, show 99999 - q_pos P n a - 1 - (q_pos P n a - 10) - 1 + (q_pos P n a - 10) + 1 = 99999 - q_pos P n a - 1 by omega] at e68
    dsimp only at e68
    have hp1 : q_pw y1 (upd (upd (upd (upd y1.1 45 (nI (q_pos P n a - 10))) 46 (nI (min (q_pos P n a) 10))) 43 11) 44 0, y1.2) := ⟨rfl, rfl, fun _ _ => rfl⟩
    have hMS : q_MS P n tp a ((g 0 0).2 3) (q_O g 3 0 (upd (upd (upd (upd y1.1 45 (nI (q_pos P n a - 10))) 46 (nI (min (q_pos P n a) 10))) 43 11) 44 0, y1.2)) := by
      have h5 := q_INV_M hI1 (y' := (upd (upd (upd (upd y1.1 45 (nI (q_pos P n a - 10))) 46 (nI (min (q_pos P n a) 10))) 43 11) 44 0, y1.2)) (by rw [q_O_get]; exact hp1) (by have := hI1.2.2.2.2.2.1; rw [q_O_get] at this; exact this)
      rw [q_O_O] at h5
      refine ⟨h5, ?_, rfl, ?_, ?_, ?_, ?_⟩
      · rw [q_O_get]
        exact t1
      · rw [q_O_get]
        exact l35
      · rw [q_O_get]
        exact l25
      · rw [q_O_get]
        rfl
      · rw [q_O_get]
        rfl
    obtain ⟨y', b, e116, q1, q2, q3, q4⟩ := q_fs116 (tp := tp) (nz := (g 0 0).2 3) ha rfl (x3 := M') (2 ^ min (q_pos P n a) 10) (99999 - q_pos P n a - 1 - (q_pos P n a - 10) - 1) (q_O g 3 0 (upd (upd (upd (upd y1.1 45 (nI (q_pos P n a - 10))) 46 (nI (min (q_pos P n a) 10))) 43 11) 44 0, y1.2)) (Nat.le_refl _) (by omega) hMS hM' (Or.inl ⟨by rw [q_O_get]; rfl, rfl, q_D_all ha (by rw [hq]; exact fun hc => nomatch hc)⟩)
    rw [q_O_O] at e116 q1
    refine ⟨y', Or.inr ⟨(fun hc => nomatch hc), hF.trans (Eq.trans e17 (Eq.trans e68 (Eq.trans ?_ e116))), q1, b, q2, q3, q4⟩⟩
    obtain ⟨t, ht⟩ : ∃ t, 2 ^ min (q_pos P n a) 10 = t + 1 := ⟨2 ^ min (q_pos P n a) 10 - 1, by omega⟩
    rw [ht, show q_ct (t + 1) = nI t from rfl, show t + 1 - 1 = t by omega]
theorem q_s_small (x1 : Int32) : q_sim q_eN zF_X4_small zF_X5_small [.inl x1] := by
  intro g hg
  have hg' := hg
  obtain ⟨P, n, tp, h⟩ := hg
  have hn := h.1.1
  have hX7 := h.2.1.1.1
  have hM16 := h.2.2.2.2.1.1
  rcases q_ix x1 (n := n) (by omega) with ⟨a, ha, rfl⟩ | hb
  · obtain ⟨g1, e1, hI1, hf, -⟩ := q_brg h
    have ex := q_xwA hI1 hf ha
    have hX := (ze_X4_small (nI a) g).trans (zu_X4_small_0 99999 (nI a) g)
    rw [q_ckA_ok hX7 hn ha, q_bV, e1, q_bV, ex, q_bI] at hX
    by_cases hd : q_wA P n ((g1 0 0).2 3) a = none
    · rw [hd, if_pos (show q_cI none = -1 from rfl)] at hX
      obtain ⟨y', hm⟩ := q_mfs (q_INV_t (v := 0) hI1) (q_t0 _ _) ha
      rcases hm with ⟨-, e2, hI2, t0⟩ | ⟨hc, -⟩
      · refine ⟨_, g1, -1, _, hX, ?_, ⟨?_, rfl⟩, P, n, tp, hI2⟩
        · rw [(ze_X5_small (nI a) g1).trans (zu_X5_small_0 99999 (nI a) g1), q_isA_ok (q_t0 _ _) ((q_t16 _ _).trans hI1.2.2.2.2.1.1) hn ha, q_bI, if_neg (by decide), e2, q_bI, if_pos rfl]
        · rw [q_O_get]
          exact t0
      · exact absurd hd hc
    · obtain ⟨g2, s, e3, hs, hI3, n3, k2, k3⟩ := q_xset ⟨hI1, hf⟩ ha hd
      have hlt : ∀ w, q_wA P n ((g1 0 0).2 3) a = some w → w < 8 := fun w hw => q_wA_lt hI1 hf ha hw
      have hs10 : s < 2 ^ 10 := Nat.lt_of_lt_of_le hs.1 (Nat.pow_le_pow_right (by decide) (by omega))
      rw [if_neg (show ¬ q_cI (q_wA P n ((g1 0 0).2 3) a) = -1 from fun hc => hd ((q_cI_inj (o' := none) (fun w hw => by have := hlt w hw; omega) (fun w hw => nomatch hw)).mp hc)), e3, q_bI, q_cnt (by omega), q_bI] at hX
      obtain ⟨y', hm⟩ := q_mfs (q_INV_t (v := 0) hI3.1) (q_t0 _ _) ha
      have hnz : (z_gI g2 3 0 0 0 0 0).2 3 = (g1 0 0).2 3 := n3
      rw [hnz] at hm
      rcases hm with ⟨hc, -⟩ | ⟨-, e2, hS, b, b1, b2, b3⟩
      · exact absurd hc hd
      · have ebs := q_isS_one b3 hs
        subst ebs
        refine ⟨_, g2, nI (q_pc b), _, hX, ?_, ⟨?_, rfl⟩, P, n, tp, hS.1⟩
        · rw [(ze_X5_small (nI a) g2).trans (zu_X5_small_0 99999 (nI a) g2), q_isA_ok (q_t0 _ _) ((q_t16 _ _).trans hI3.1.2.2.2.2.1.1) hn ha, q_bI, if_neg (by decide), e2, q_bI, if_neg (by decide), q_O_get, b2]
        · exact hS.2.1
  · refine q_sim_bad (b := 0) (e := 2) (c := 1) hg' ?_ ?_ (by decide) rfl
    · rw [(ze_X4_small x1 g).trans (zu_X4_small_0 99999 x1 g), q_ckA_bad hX7 hb, q_bVx]
    · rw [(ze_X5_small x1 g).trans (zu_X5_small_0 99999 x1 g), q_isA_bad (q_t0 _ _) ((q_t16 _ _).trans hM16) hn hb, q_bI, if_pos rfl, q_tt]
/-! smallest -/
def q_kth (p s : Nat) (x : Int32) : Nat → Nat → Int32 → Option Nat
  | 0, _, _ => none
  | m + 1, i, c => if s.testBit (p - 1 - i) then (if c = x then some i else q_kth p s x m (i + 1) (c + 1)) else q_kth p s x m (i + 1) c
theorem q_kth_lt {p s i : Nat} {x : Int32} : ∀ (m k : Nat) (c : Int32), q_kth p s x m k c = some i → i < k + m
  | 0, k, c, h => nomatch h
  | m + 1, k, c, h => by
    rw [q_kth] at h
    split at h
    · split at h
      · cases h
        omega
      · have := q_kth_lt m (k + 1) _ h
        omega
    · have := q_kth_lt m (k + 1) _ h
      omega
theorem q_kth_neg {p s : Nat} {x : Int32} (hx : x < 0) : ∀ (m k c : Nat), c + m < 2 ^ 31 → q_kth p s x m k (nI c) = none
  | 0, _, _, _ => rfl
  | m + 1, k, c, h => by
    rw [q_kth, if_neg (show ¬ nI c = x from fun hc => nI_pos (by omega) (hc ▸ hx)), nI_1, q_kth_neg hx m (k + 1) (c + 1) (by omega), q_kth_neg hx m (k + 1) c (by omega)]
    split <;> rfl
theorem q_xkth {P : qP} {n p s : Nat} {x2 : Int32} {g : zSG} (hn : n ≤ 30) (hp : p < n) (hs : s < 2 ^ 10) (ho : ∀ j, j < n → (g 2 0).2 6 j = nI (q_lineF (q_tk P) n j)) : ∀ (m k N : Nat) (c : Int32), k + m = p → m < N → z_run zM_X4_smallest zc_X4_smallest zk_X4_smallest N 58 [(0, .inr (.inl (0, 0, 0))), (2, .inl x2), (3, .inl (nI s)), (4, .inl (nI p)), (5, .inl c), (6, .inl (nI k))] g (3, 18) = some (.inl (some (.inl (q_cI ((q_kth p s x2 m k c).map (q_lineF (q_tk P) n))))), g) := by
  intro m
  induction m with
  | zero =>
    intro k N c hk hN
    obtain ⟨N, rfl⟩ : ∃ N', N = N' + 1 := ⟨N - 1, by omega⟩
    rw [zu_X4_smallest_58, if_pos (nI_le (by omega) (by omega))]
    rfl
  | succ m ih =>
    intro k N c hk hN
    obtain ⟨N, rfl⟩ : ∃ N', N = N' + 1 := ⟨N - 1, by omega⟩
    rw [zu_X4_smallest_58, if_neg (nI_ge (by omega) (by omega)), q_xisIn hs (show k < p by omega) (by omega), q_bI, nI_1, q_kth]
    cases ht : s.testBit (p - 1 - k) with
    | false =>
      rw [if_pos (show (if false = true then (1 : Int32) else 0) = 0 by decide), if_neg (by decide)]
      exact ih (k + 1) N c (by omega) (by omega)
    | true =>
      rw [if_neg (show ¬ (if true = true then (1 : Int32) else 0) = 0 by decide), if_pos rfl]
      by_cases e : c = x2
      · rw [if_pos e, if_pos e, if_pos (q_inb' (show k < 30 by omega) (by decide)), nI_clamp (by omega), ho k (by omega)]
        rfl
      · rw [if_neg e, if_neg e]
        exact ih (k + 1) N _ (by omega) (by omega)
theorem q_mkth {P : qP} {n p s : Nat} {x2 : Int32} {g : zSG} (hn : n ≤ 30) (hp : p < n) (hs : s < 2 ^ 10) (h25 : ∀ j, j < n → (g 3 0).2 25 j = nI (q_lineF (q_tk P) n j)) (h44 : (g 3 0).1 44 = nI s) (h45 : (g 3 0).1 45 = nI (p - 10)) (h46 : (g 3 0).1 46 = nI (min p 10)) : ∀ (m k N : Nat) (c : Int32), k + m = min p 10 → m < N → z_run zM_X5_smallest zc_X5_smallest zk_X5_smallest N 39 [(0, .inr (.inl (3, 0, 0))), (2, .inl x2), (3, .inl c), (4, .inl (nI k))] g (0, 0) = some (.inl (some (.inl (q_cI ((q_kth p s x2 m (p - 10 + k) c).map (q_lineF (q_tk P) n))))), g) := by
  intro m
  induction m with
  | zero =>
    intro k N c hk hN
    obtain ⟨N, rfl⟩ : ∃ N', N = N' + 1 := ⟨N - 1, by omega⟩
    rw [zu_X5_smallest_39, h46, if_pos (nI_le (by omega) (by omega))]
    rfl
  | succ m ih =>
    intro k N c hk hN
    obtain ⟨N, rfl⟩ : ∃ N', N = N' + 1 := ⟨N - 1, by omega⟩
    have e1 : nI (min p 10) - 1 - nI k = nI (min p 10 - 1 - k) := by
      rw [show (1 : Int32) = nI 1 from rfl, pk_sub (by omega), pk_sub (by omega)]
    have e2 : nI (p - 10) + nI k = nI (p - 10 + k) := nI_add _ _
    have hb := q_bit (M := s) (a := min p 10 - 1 - k) (by omega) (by omega)
    rw [zu_X5_smallest_39, h44, h45, h46, if_neg (nI_ge (by omega) (by omega)), e1, e2, nI_1, q_kth, show p - 1 - (p - 10 + k) = min p 10 - 1 - k by omega]
    cases ht : s.testBit (min p 10 - 1 - k) with
    | false =>
      have e3 : (nI s >>> (nI (min p 10 - 1 - k) &&& 31)) &&& (1 : Int32) = 0 := by
        rcases q_and1 (nI s >>> (nI (min p 10 - 1 - k) &&& 31)) with h | h
        · exact h
        · rw [hb.mp h] at ht
          cases ht
      rw [if_pos e3, if_neg (by decide)]
      exact ih (k + 1) N c (by omega) (by omega)
    | true =>
      rw [if_neg (show ¬ (nI s >>> (nI (min p 10 - 1 - k) &&& 31)) &&& (1 : Int32) = 0 by rw [hb.mpr ht]; decide), if_pos rfl]
      by_cases e : c = x2
      · rw [if_pos e, if_pos e, if_pos (q_inb' (show p - 10 + k < 30 by omega) (by decide)), nI_clamp (by omega), h25 _ (by omega)]
        rfl
      · rw [if_neg e, if_neg e]
        exact ih (k + 1) N _ (by omega) (by omega)
theorem q_s_smallest (x1 x2 : Int32) : q_sim q_eN zF_X4_smallest zF_X5_smallest [.inl x1, .inl x2] := by
  intro g hg
  have hg' := hg
  obtain ⟨P, n, tp, h⟩ := hg
  have hn := h.1.1
  have hX7 := h.2.1.1.1
  have hM16 := h.2.2.2.2.1.1
  rcases q_ix x1 (n := n) (by omega) with ⟨a, ha, rfl⟩ | hb
  · obtain ⟨g1, e1, hI1, hf, -⟩ := q_brg h
    obtain ⟨hpn, hpa⟩ := q_pos_is P ha
    have ex := q_xwA hI1 hf ha
    have hX := (ze_X4_smallest (nI a) x2 g).trans (zu_X4_smallest_0 99999 (nI a) x2 g)
    rw [q_ckA_ok hX7 hn ha, q_bV, e1, q_bV] at hX
    have hM : ∀ gg, q_INV P n tp gg → (gg 0 0).2 3 = (g1 0 0).2 3 → (q_wA P n ((g1 0 0).2 3) a = none → ∃ g2, zF_X5_smallest [.inr (.inl (3, 0, 0)), .inl (nI a), .inl x2] gg = some (.inl (some (.inl (-1))), g2) ∧ (g2 3 0).1 0 = 0 ∧ q_INV P n tp g2) ∧ (q_wA P n ((g1 0 0).2 3) a ≠ none → ∃ g2 b, zF_X5_smallest [.inr (.inl (3, 0, 0)), .inl (nI a), .inl x2] gg = some (.inl (some (.inl (q_cI ((q_kth (q_pos P n a) b x2 (min (q_pos P n a) 10) (q_pos P n a - 10) 0).map (q_lineF (q_tk P) n))))), g2) ∧ (g2 3 0).1 0 = 0 ∧ q_INV P n tp g2 ∧ q_isS P n ((g1 0 0).2 3) a b) := by
      intro gg hI hnz
      obtain ⟨y', hm⟩ := q_mfs (q_INV_t (v := 0) hI) (q_t0 _ _) ha
      rw [show (z_gI gg 3 0 0 0 0 0).2 3 = (g1 0 0).2 3 from hnz] at hm
      have hF := (ze_X5_smallest (nI a) x2 gg).trans (zu_X5_smallest_0 99999 (nI a) x2 gg)
      rw [q_isA_ok (q_t0 _ _) ((q_t16 _ _).trans hI.2.2.2.2.1.1) hn ha, q_bI, if_neg (by decide)] at hF
      constructor
      · intro hd
        rcases hm with ⟨-, e2, hI2, t0⟩ | ⟨hc, -⟩
        · rw [e2, q_bI, if_pos rfl, q_O_get, if_pos t0] at hF
          exact ⟨_, hF, by rw [q_O_get]; exact t0, hI2⟩
        · exact absurd hd hc
      · intro hd
        rcases hm with ⟨hc, -⟩ | ⟨-, e2, hS, b, b1, b2, b3⟩
        · exact absurd hc hd
        · have hb10 : b < 2 ^ 10 := Nat.lt_of_lt_of_le b3.1 (Nat.pow_le_pow_right (by decide) (by omega))
          rw [e2, q_bI, if_neg (by decide)] at hF
          obtain ⟨s1, s2, s3, s4, s5, s6, s7⟩ := hS
          have ek := q_mkth (P := P) (n := n) (p := q_pos P n a) (s := b) (x2 := x2) (g := q_O (z_gI gg 3 0 0 0) 3 0 y') hn hpn hb10 s5 (by rw [q_O_get]; exact b1) s6 s7 (min (q_pos P n a) 10) 0 99999 0 (by omega) (by omega)
          rw [Nat.add_zero] at ek
          exact ⟨_, b, hF.trans ek, s2, s1, b3⟩
    by_cases hx : x2 < 0
    · rw [if_pos hx] at hX
      obtain ⟨m1, m2⟩ := hM g1 hI1 rfl
      by_cases hd : q_wA P n ((g1 0 0).2 3) a = none
      · obtain ⟨g2, e2, t0, hI2⟩ := m1 hd
        exact ⟨_, g1, _, g2, hX, e2, ⟨t0, rfl⟩, P, n, tp, hI2⟩
      · obtain ⟨g2, b, e2, t0, hI2, -⟩ := m2 hd
        have ek := q_kth_neg (p := q_pos P n a) (s := b) hx (min (q_pos P n a) 10) (q_pos P n a - 10) 0 (by omega)
        rw [show (0 : Int32) = nI 0 from rfl, ek] at e2
        exact ⟨_, g1, _, g2, hX, e2, ⟨t0, rfl⟩, P, n, tp, hI2⟩
    · rw [if_neg hx, ex, q_bI] at hX
      by_cases hd : q_wA P n ((g1 0 0).2 3) a = none
      · obtain ⟨g2, e2, t0, hI2⟩ := (hM g1 hI1 rfl).1 hd
        rw [hd, if_pos (show q_cI none = -1 from rfl)] at hX
        exact ⟨_, g1, _, g2, hX, e2, ⟨t0, rfl⟩, P, n, tp, hI2⟩
      · obtain ⟨g2, s, e3, hs, hI3, n3, k2, k3⟩ := q_xset ⟨hI1, hf⟩ ha hd
        have hlt : ∀ w, q_wA P n ((g1 0 0).2 3) a = some w → w < 8 := fun w hw => q_wA_lt hI1 hf ha hw
        have hs10 : s < 2 ^ 10 := Nat.lt_of_lt_of_le hs.1 (Nat.pow_le_pow_right (by decide) (by omega))
        have hmax : (if (0 : Int32) < nI (q_pos P n a) - 10 then nI (q_pos P n a) - 10 else 0) = nI (q_pos P n a - 10) := by
          by_cases c : 10 < q_pos P n a
          · rw [show (10 : Int32) = nI 10 from rfl, pk_sub (by omega), if_pos (show (0 : Int32) < nI (q_pos P n a - 10) from nI_lt (a := 0) (by omega) (by omega))]
          · have e : ¬ (0 : Int32) < nI (q_pos P n a) - 10 := by
              rw [fa_lt, show (10 : Int32) = nI 10 from rfl, pk_sub_toInt (by omega) (by decide)]
              show ¬ (0 : Int) < _
              omega
            rw [if_neg e, show q_pos P n a - 10 = 0 by omega]
            rfl
        obtain ⟨g3, b, e4, t0, hI4, hbs⟩ := (hM g2 hI3.1 n3).2 hd
        have ebs := q_isS_one hbs hs
        subst ebs
        rw [if_neg (show ¬ q_cI (q_wA P n ((g1 0 0).2 3) a) = -1 from fun hc => hd ((q_cI_inj (o' := none) (fun w hw => by have := hlt w hw; omega) (fun w hw => nomatch hw)).mp hc)), e3, q_bI, q_xplace hn hI3.1.2.1.1.1 hI3.1.2.1.2.1 ha, q_bI, q_max, q_bI, hmax] at hX
        have ek := q_xkth (P := P) (n := n) (p := q_pos P n a) (s := b) (x2 := x2) (g := g2) hn hpn hs10 hI3.1.2.1.2.1 (min (q_pos P n a) 10) (q_pos P n a - 10) 99999 0 (by omega) (by omega)
        exact ⟨_, g2, _, g3, hX.trans ek, e4, ⟨t0, rfl⟩, P, n, tp, hI4⟩
  · refine q_sim_bad (b := 0) (e := 2) (c := 1) hg' ?_ ?_ (by decide) rfl
    · rw [(ze_X4_smallest x1 x2 g).trans (zu_X4_smallest_0 99999 x1 x2 g), q_ckA_bad hX7 hb, q_bVx]
    · rw [(ze_X5_smallest x1 x2 g).trans (zu_X5_smallest_0 99999 x1 x2 g), q_isA_bad (q_t0 _ _) ((q_t16 _ _).trans hM16) hn hb, q_bI, if_pos rfl, q_tt, if_neg (by rw [q_t0]; decide)]
