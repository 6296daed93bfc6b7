/-! ===== pure part: shapes ===== -/
theorem q_sc_ge (p : Nat → Bool) : ∀ (m k : Nat), k ≤ q_sc p m k ∧ q_sc p m k ≤ k + m
  | 0, k => ⟨Nat.le_refl _, Nat.le_refl _⟩
  | m + 1, k => by
    rw [q_sc]
    split
    · exact ⟨Nat.le_refl _, by omega⟩
    · have := q_sc_ge p m (k + 1)
      exact ⟨by omega, by omega⟩
theorem q_sc_no (p : Nat → Bool) : ∀ (m k : Nat), q_sc p m k = k + m ↔ ∀ j, k ≤ j → j < k + m → p j = false
  | 0, k => ⟨fun _ j h1 h2 => absurd h2 (by omega), fun _ => rfl⟩
  | m + 1, k => by
    rw [q_sc]
    by_cases h : p k = true
    · rw [if_pos h]
      exact ⟨fun e => absurd e (by omega), fun hc => absurd (hc k (Nat.le_refl _) (by omega)) (by rw [h]; decide)⟩
    · rw [if_neg h, show k + (m + 1) = k + 1 + m by omega, q_sc_no p m (k + 1)]
      exact ⟨fun hc j h1 h2 => by
        by_cases e : j = k
        · subst e
          exact Bool.eq_false_iff.mpr h
        · exact hc j (by omega) h2, fun hc j h1 h2 => hc j (by omega) h2⟩
theorem q_sc_yes (p : Nat → Bool) : ∀ (m k : Nat), q_sc p m k < k + m → p (q_sc p m k) = true
  | 0, k, h => absurd h (by rw [q_sc]; omega)
  | m + 1, k, h => by
    rw [q_sc] at h ⊢
    by_cases e : p k = true
    · rw [if_pos e]
      exact e
    · rw [if_neg e] at h ⊢
      exact q_sc_yes p m (k + 1) (by omega)
theorem q_sc_before (p : Nat → Bool) : ∀ (m k j : Nat), k ≤ j → j < q_sc p m k → p j = false
  | 0, k, j, h1, h2 => absurd h2 (by rw [q_sc]; omega)
  | m + 1, k, j, h1, h2 => by
    rw [q_sc] at h2
    by_cases e : p k = true
    · rw [if_pos e] at h2
      omega
    · rw [if_neg e] at h2
      by_cases e2 : j = k
      · subst e2
        exact Bool.eq_false_iff.mpr e
      · exact q_sc_before p m (k + 1) j (by omega) h2
theorem q_wh_lt {nz : Nat → Int32} {kd f : Nat} {E E' : zLS} (h1 : q_ln E ≤ 8) (h2 : q_ln E' ≤ 8) (h : q_wh nz kd E E' = some f) : f < 8 := by
  unfold q_wh at h
  split at h
  · rename_i hc
    cases h
    have := Nat.min_le_left (q_ln E) (q_ln E')
    omega
  · split at h
    · cases h
    · cases h
      omega
def q_sh (P : qP) (n : Nat) (nz : Nat → Int32) (a : Nat) : Option Nat := (q_wA P n nz a).map (fun w => q_kd P a * 8 + w)
def q_lw (sh : Nat → Option Nat) (i : Nat) : Bool := (sh i).isSome && decide (q_sc (fun j => decide (sh j = sh i)) i 0 = i)
theorem q_lw_is {sh : Nat → Option Nat} {i s : Nat} (h : sh i = some s) : q_lw sh i = true ↔ ∀ j, j < i → sh j ≠ some s := by
  unfold q_lw
  rw [h]
  have h1 := q_sc_no (fun j => decide (sh j = some s)) i 0
  rw [Nat.zero_add] at h1
  simp only [Option.isSome_some, Bool.true_and, decide_eq_true_eq]
  rw [h1]
  exact ⟨fun hc j hj => of_decide_eq_false (hc j (by omega) hj), fun hc j _ hj => decide_eq_false (hc j hj)⟩
theorem q_lw_none {sh : Nat → Option Nat} {i : Nat} (h : sh i = none) : q_lw sh i = false := by
  unfold q_lw
  rw [h]
  rfl
theorem q_shl32 {j : Nat} (h : j < 32) : (1 : Int32) <<< (nI j &&& 31) = nI (2 ^ j) := by
  have h1 : ∀ j : Fin 32, (1 : Int32) <<< (nI j.val &&& 31) = nI (2 ^ j.val) := by decide
  exact h1 ⟨j, h⟩
theorem q_nI0 {y : Nat} (h : y < 2 ^ 32) : nI y = 0 ↔ y = 0 := by
  constructor
  · intro e
    have h1 := congrArg (fun x : Int32 => x.toBitVec.toNat) e
    rw [pk_tn h] at h1
    rw [h1]
    rfl
  · rintro rfl
    rfl
theorem q_bit32 {x s : Nat} (hx : x < 2 ^ 32) : nI x &&& nI (2 ^ s) = 0 ↔ x.testBit s = false := by
  rw [fa_and, q_nI0 (Nat.lt_of_le_of_lt Nat.and_le_left hx), fb_bit_nat]
theorem q_wA_lt {P : qP} {n tp a w : Nat} {g : zSG} {nz : Nat → Int32} (h : q_INV P n tp g) (hf : q_fx P n g) (ha : a < n) (hw : q_wA P n nz a = some w) : w < 8 := by
  have hn := h.1.1
  obtain ⟨E, hE⟩ := q_RA_some P (n := n) (v := 0) 0 ha
  obtain ⟨E', hE'⟩ := q_RA_some P (n := n) (v := 1) 0 ha
  have h1 := hf.1.2.2 a (by omega)
  have h2 := hf.2.2.2 a (by omega)
  rw [hE] at h1
  rw [hE'] at h2
  obtain ⟨-, m, hm, l, -⟩ := h1
  obtain ⟨-, m', hm', l', -⟩ := h2
  rw [q_wA_is hE hE'] at hw
  exact q_wh_lt (by rw [q_ln_of l hm]; exact hm) (by rw [q_ln_of l' hm']; exact hm') hw
/-- a state at which the program may look at shapes -/
def q_lk (P : qP) (n tp : Nat) (g : zSG) : Prop := q_INV P n tp g ∧ q_fx P n g
theorem q_sh_lt {P : qP} {n tp a s : Nat} {g : zSG} {nz : Nat → Int32} (h : q_lk P n tp g) (ha : a < n) (hs : q_sh P n nz a = some s) : s < 32 := by
  unfold q_sh at hs
  cases hw : q_wA P n nz a with
  | none =>
    rw [hw] at hs
    cases hs
  | some w =>
    rw [hw] at hs
    have h1 := q_wA_lt h.1 h.2 ha hw
    have h2 := (h.1.1.2.1 a ha).1
    cases hs
    show q_kd P a * 8 + w < 32
    omega
theorem q_xsh {P : qP} {n tp a : Nat} {g : zSG} (h : q_lk P n tp g) (ha : a < n) : zF_X4_shapeOf [.inr (.inl (0, 0, 0)), .inl (nI a)] g = some (.inl (some (.inl (q_cI (q_sh P n ((g 0 0).2 3) a)))), g) := by
  have hn := h.1.1.1
  rw [(ze_X4_shapeOf (nI a) g).trans (zu_X4_shapeOf_0 99999 (nI a) g), q_xwA h.1 h.2 ha, q_bI]
  unfold q_sh
  cases hw : q_wA P n ((g 0 0).2 3) a with
  | none =>
    rw [if_pos (show q_cI none = -1 from rfl)]
    rfl
  | some w =>
    have h1 := q_wA_lt h.1 h.2 ha hw
    rw [if_neg (show ¬ q_cI (some w) = -1 from q_nI_m1 (by omega)), if_pos (q_inb' (show a < 30 by omega) (by decide)), nI_clamp (by omega), (h.1.2.1.1.2.1 a ha).1]
    rw [show q_cI (some w) = nI w from rfl, show (8 : Int32) = nI 8 from rfl, pk_mul, nI_add]
    rfl
/-- the bits of the shapes seen so far -/
def q_seen (sh : Nat → Option Nat) (k x : Nat) : Prop := x < 2 ^ 32 ∧ (∀ s, s < 32 → (x.testBit s = true ↔ ∃ j, j < k ∧ sh j = some s)) ∧ q_n1 x = fb_ct (q_lw sh) k
theorem q_seen_0 (sh : Nat → Option Nat) : q_seen sh 0 0 := ⟨by decide, fun s _ => ⟨fun h => by simp at h, fun ⟨j, hj, _⟩ => absurd hj (by omega)⟩, (show q_n1 0 = 0 by decide)⟩
theorem q_seen_none {sh : Nat → Option Nat} {k x : Nat} (h : q_seen sh k x) (e : sh k = none) : q_seen sh (k + 1) x := by
  obtain ⟨h1, h2, h3⟩ := h
  refine ⟨h1, fun s hs => (h2 s hs).trans ⟨fun ⟨j, hj, hj2⟩ => ⟨j, by omega, hj2⟩, fun ⟨j, hj, hj2⟩ => ⟨j, ?_, hj2⟩⟩, ?_⟩
  · by_cases c : j = k
    · subst c
      rw [e] at hj2
      cases hj2
    · omega
  · rw [fb_ct_succ, q_lw_none e, h3]
    rfl
theorem q_seen_old {sh : Nat → Option Nat} {k x s : Nat} (h : q_seen sh k x) (hs : s < 32) (e : sh k = some s) (hb : x.testBit s = true) : q_seen sh (k + 1) x ∧ q_lw sh k = false := by
  obtain ⟨h1, h2, h3⟩ := h
  have hl : q_lw sh k = false := by
    rw [Bool.eq_false_iff]
    intro hc
    obtain ⟨j, hj, hj2⟩ := (h2 s hs).mp hb
    exact (q_lw_is e).mp hc j hj hj2
  refine ⟨⟨h1, fun s' hs' => (h2 s' hs').trans ⟨fun ⟨j, hj, hj2⟩ => ⟨j, by omega, hj2⟩, fun ⟨j, hj, hj2⟩ => ?_⟩, ?_⟩, hl⟩
  · by_cases c : j = k
    · subst c
      rw [e] at hj2
      cases hj2
      exact (h2 s hs).mp hb
    · exact ⟨j, by omega, hj2⟩
  · rw [fb_ct_succ, hl, h3]
    rfl
theorem q_seen_new {sh : Nat → Option Nat} {k x s : Nat} (h : q_seen sh k x) (hs : s < 32) (e : sh k = some s) (hb : x.testBit s = false) : q_seen sh (k + 1) (x ||| 2 ^ s) ∧ q_lw sh k = true := by
  obtain ⟨h1, h2, h3⟩ := h
  have hl : q_lw sh k = true := (q_lw_is e).mpr (fun j hj hc => by
    have := (h2 s hs).mpr ⟨j, hj, hc⟩
    rw [hb] at this
    cases this)
  refine ⟨⟨Nat.or_lt_two_pow h1 (Nat.pow_lt_pow_right (by decide) hs), fun s' hs' => ?_, ?_⟩, hl⟩
  · rw [fb_bit_set]
    by_cases c : s' = s
    · subst c
      simp only [decide_true, Bool.or_true, true_iff]
      exact ⟨k, by omega, e⟩
    · rw [decide_eq_false c, Bool.or_false, h2 s' hs']
      exact ⟨fun ⟨j, hj, hj2⟩ => ⟨j, by omega, hj2⟩, fun ⟨j, hj, hj2⟩ => ⟨j, by
        by_cases c2 : j = k
        · subst c2
          rw [e] at hj2
          cases hj2
          exact absurd rfl c
        · omega, hj2⟩⟩
  · have h4 := fb_ct_upd (fun i => x.testBit i) true (i := s) (n := 32) hs
    rw [hb] at h4
    have h5 : q_n1 (x ||| 2 ^ s) = fb_ct (fun i => if i = s then true else x.testBit i) 32 := by
      unfold q_n1
      refine fb_ct_cong (fun i _ => ?_)
      show (x ||| 2 ^ s).testBit i = _
      rw [fb_bit_set]
      by_cases c : i = s
      · subst c
        simp
      · simp [c]
    rw [h5, fb_ct_succ (q_lw sh) k, hl, ← h3]
    unfold q_n1
    simpa using h4
theorem q_xshapes8 {P : qP} {n tp : Nat} {g : zSG} (h : q_lk P n tp g) : ∀ (m k N x : Nat), k + m = n → m < N → q_seen (q_sh P n ((g 0 0).2 3)) k x → z_run zM_X4_shapes zc_X4_shapes zk_X4_shapes N 8 [(0, .inr (.inl (0, 0, 0))), (1, .inl (nI x)), (2, .inl (nI k))] g (0, 0) = some (.inl (some (.inl (nI (fb_ct (q_lw (q_sh P n ((g 0 0).2 3))) n)))), g) := by
  have hn := h.1.1.1
  have h7 := h.1.2.1.1.1
  intro m
  induction m with
  | zero =>
    intro k N x hk hN hx
    obtain ⟨N, rfl⟩ : ∃ N', N = N' + 1 := ⟨N - 1, by omega⟩
    have e : k = n := by omega
    subst e
    rw [zu_X4_shapes_8, h7, if_pos (nI_le (Nat.le_refl _) (by omega)), q_cnt hx.1, q_bI, hx.2.2]
  | succ m ih =>
    intro k N x hk hN hx
    obtain ⟨N, rfl⟩ : ∃ N', N = N' + 1 := ⟨N - 1, by omega⟩
    rw [zu_X4_shapes_8, h7, if_neg (nI_ge (by omega) (by omega)), q_xsh h (show k < n by omega), q_bI, nI_1]
    cases hs : q_sh P n ((g 0 0).2 3) k with
    | none =>
      rw [if_pos (show q_cI none = -1 from rfl)]
      exact ih (k + 1) N x (by omega) (by omega) (q_seen_none hx hs)
    | some s =>
      have h32 := q_sh_lt h (show k < n by omega) hs
      rw [if_neg (show ¬ q_cI (some s) = -1 from q_nI_m1 (by omega)), show q_cI (some s) = nI s from rfl, q_shl32 h32, fa_or]
      cases hb : x.testBit s with
      | false => exact ih (k + 1) N _ (by omega) (by omega) (q_seen_new hx h32 hs hb).1
      | true =>
        have e : x ||| 2 ^ s = x := by
          apply Nat.eq_of_testBit_eq
          intro i
          rw [fb_bit_set]
          by_cases c : i = s
          · subst c
            rw [hb]
            rfl
          · simp [c]
        rw [e]
        exact ih (k + 1) N x (by omega) (by omega) (q_seen_old hx h32 hs hb).1
/-! the reference -/
def q_lkM (P : qP) (n tp : Nat) (g : zSG) : Prop := q_INV P n tp g ∧ ∀ a, a < n → (g 3 0).2 42 a = q_cI (q_wA P n ((g 0 0).2 3) a)
theorem q_mfw6 {P : qP} {n tp : Nat} : ∀ (m k N : Nat) (g : zSG), k + m = n → m < N → q_INV P n tp g → (g 3 0).1 0 = 0 → q_rm n 1 (q_RA P n 1 0) (g 3 0) → (∀ i, i < n → ∀ E, (q_RA P n 0 0).2 i = some E → q_rsO (g 3 0) i E) → (∀ a, a < k → (g 3 0).2 42 a = q_cI (q_wA P n ((g 0 0).2 3) a)) →
    ∃ y', z_run zM_X5_findWheres zc_X5_findWheres zk_X5_findWheres N 6 [(0, .inr (.inl (3, 0, 0))), (1, .inl (nI k))] g (0, 0) = some (.inl none, q_O g 3 0 y') ∧ q_lkM P n tp (q_O g 3 0 y') ∧ y'.1 0 = 0 := by
  intro m
  induction m with
  | zero =>
    intro k N g hk hN h h0 r1 r2 hR
    obtain ⟨N, rfl⟩ : ∃ N', N = N' + 1 := ⟨N - 1, by omega⟩
    have hn := h.1.1
    have e : k = n := by omega
    subst e
    refine ⟨g 3 0, ?_, ?_, h0⟩
    · rw [zu_X5_findWheres_6, h.2.2.2.2.1.1, if_pos (nI_le (Nat.le_refl _) (by omega)), q_O_self]
    · rw [q_O_self]
      exact ⟨h, hR⟩
  | succ m ih =>
    intro k N g hk hN h h0 r1 r2 hR
    obtain ⟨N, rfl⟩ : ∃ N', N = N' + 1 := ⟨N - 1, by omega⟩
    have hn := h.1.1
    rw [zu_X5_findWheres_6, h.2.2.2.2.1.1, if_neg (nI_ge (by omega) (by omega)), q_mwA h r1 r2 (show k < n by omega), q_bI, if_pos (q_inb' (show k < 30 by omega) (by decide)), nI_clamp (by omega), nI_1, q_gA]
    have hI : q_INV P n tp (q_O g 3 0 ((g 3 0).1, va_up (g 3 0).2 42 (upd ((g 3 0).2 42) k (q_cI (q_wA P n ((g 0 0).2 3) k))))) := q_INV_M h ⟨rfl, rfl, fun j hj => va_up_ne _ _ (by omega)⟩ h.2.2.2.2.2.1
    obtain ⟨y', e1, e2, e3⟩ := ih (k + 1) N (q_O g 3 0 ((g 3 0).1, va_up (g 3 0).2 42 (upd ((g 3 0).2 42) k (q_cI (q_wA P n ((g 0 0).2 3) k))))) (by omega) (by omega) hI (by rw [q_O_get]; exact h0) (by rw [q_O_get]; exact r1) (by rw [q_O_get]; exact r2) (fun a ha => by
      rw [q_O_get]
      show upd ((g 3 0).2 42) k (q_cI (q_wA P n ((g 0 0).2 3) k)) a = q_cI (q_wA P n ((g 0 0).2 3) a)
      by_cases e : a = k
      · subst e
        first | exact pk_us | rfl
      · rw [pk_un e]
        exact hR a (by omega))
    rw [q_O_O] at e1 e2
    exact ⟨y', e1, e2, e3⟩
theorem q_mfw {P : qP} {n tp : Nat} {g : zSG} (h : q_INV P n tp g) (h0 : (g 3 0).1 0 = 0) : ∃ y', zF_X5_findWheres [.inr (.inl (3, 0, 0))] g = some (.inl none, q_O g 3 0 y') ∧ q_lkM P n tp (q_O g 3 0 y') ∧ y'.1 0 = 0 := by
  have hn := h.1.1
  obtain ⟨y1, e1, r1, r2, t1, hI1, -⟩ := q_mbothall h h0
  obtain ⟨y2, e2, k2, t2⟩ := q_mfw6 n 0 99999 (q_O g 3 0 y1) (by omega) (by omega) hI1 (by rw [q_O_get]; exact t1) (by rw [q_O_get]; exact r1) (by rw [q_O_get]; exact r2) (fun a ha => absurd ha (by omega))
  rw [q_O_O] at e2 k2
  refine ⟨y2, ?_, k2, t2⟩
  rw [(ze_X5_findWheres g).trans (zu_X5_findWheres_0 99999 g), e1, q_bV]
  exact e2
theorem q_cI_inj {o o' : Option Nat} (h : ∀ w, o = some w → w < 2 ^ 31) (h' : ∀ w, o' = some w → w < 2 ^ 31) : q_cI o = q_cI o' ↔ o = o' := by
  constructor
  · intro e
    cases o with
    | none => cases o' with
      | none => rfl
      | some w => exact absurd e.symm (q_nI_m1 (h' w rfl))
    | some w => cases o' with
      | none => exact absurd e (q_nI_m1 (h w rfl))
      | some w' => rw [(nI_eq (h w rfl) (h' w' rfl)).mp e]
  · rintro rfl
    rfl
theorem q_sh_eq {P : qP} {n a b : Nat} {nz : Nat → Int32} (ha : ∀ w, q_wA P n nz a = some w → w < 8) (hb : ∀ w, q_wA P n nz b = some w → w < 8) : (q_wA P n nz a ≠ none ∧ q_kd P a = q_kd P b ∧ q_wA P n nz a = q_wA P n nz b) ↔ (q_sh P n nz a ≠ none ∧ q_sh P n nz a = q_sh P n nz b) := by
  unfold q_sh
  cases h1 : q_wA P n nz a with
  | none => simp
  | some w => cases h2 : q_wA P n nz b with
    | none => simp
    | some w' =>
      have e1 := ha w h1
      have e2 := hb w' h2
      simp only [Option.map_some, ne_eq, reduceCtorEq, not_false_eq_true, true_and, Option.some.injEq]
      constructor
      · rintro ⟨c1, c2⟩
        omega
      · intro c
        exact ⟨by omega, by omega⟩
section Lk
variable {P : qP} {n tp : Nat} {g : zSG} (h : q_lkM P n tp g) (hlt : ∀ a, a < n → ∀ w, q_wA P n ((g 0 0).2 3) a = some w → w < 8)
theorem q_mlike (h : q_lkM P n tp g) (hlt : ∀ a, a < n → ∀ w, q_wA P n ((g 0 0).2 3) a = some w → w < 8) {a b : Nat} (ha : a < n) (hb : b < n) : zF_X5_isLike [.inr (.inl (3, 0, 0)), .inl (nI a), .inl (nI b)] g = some (.inl (some (.inl (if q_sh P n ((g 0 0).2 3) a ≠ none ∧ q_sh P n ((g 0 0).2 3) a = q_sh P n ((g 0 0).2 3) b then 1 else 0))), g) := by
  have hn := h.1.1.1
  have ha3 : z_inb (nI a) 30 := q_inb' (show a < 30 by omega) (by decide)
  have hb3 : z_inb (nI b) 30 := q_inb' (show b < 30 by omega) (by decide)
  have ka := (h.1.1.2.1 a ha).1
  have kb := (h.1.1.2.1 b hb).1
  have e := q_sh_eq (hlt a ha) (hlt b hb)
  rw [(ze_X5_isLike (nI a) (nI b) g).trans (zu_X5_isLike_0 99999 (nI a) (nI b) g), if_pos ha3, nI_clamp (show a < 2 ^ 31 by omega), nI_clamp (show b < 2 ^ 31 by omega), h.2 a ha, h.2 b hb, (h.1.2.2.2.2.1.2.1 a ha).1, (h.1.2.2.2.2.1.2.1 b hb).1]
  by_cases c0 : q_wA P n ((g 0 0).2 3) a = none
  · rw [c0, if_pos (show q_cI none = -1 from rfl), q_00, if_neg (fun hc => (e.mpr hc).1 c0)]
  · rw [if_neg (show ¬ q_cI (q_wA P n ((g 0 0).2 3) a) = -1 from fun hc => c0 ((q_cI_inj (o' := none) (fun w hw => by have := hlt a ha w hw; omega) (fun w hw => nomatch hw)).mp hc)), if_pos ha3, if_pos hb3, if_pos ha3, if_pos hb3]
    by_cases c1 : q_kd P a = q_kd P b
    · rw [if_pos (by rw [c1])]
      by_cases c2 : q_wA P n ((g 0 0).2 3) a = q_wA P n ((g 0 0).2 3) b
      · rw [if_pos (by rw [c2]), q_11, if_pos (e.mp ⟨c0, c1, c2⟩)]
      · rw [if_neg (fun hc => c2 ((q_cI_inj (fun w hw => by have := hlt a ha w hw; omega) (fun w hw => by have := hlt b hb w hw; omega)).mp hc)), q_00, if_neg (fun hc => c2 (e.mpr hc).2.2)]
    · rw [if_neg (fun hc => c1 ((nI_eq (by omega) (by omega)).mp hc)), q_00, if_neg (fun hc => c1 (e.mpr hc).2.1)]
theorem q_mlow14 (h : q_lkM P n tp g) (hlt : ∀ a, a < n → ∀ w, q_wA P n ((g 0 0).2 3) a = some w → w < 8) {a : Nat} (ha : a < n) (hs : q_sh P n ((g 0 0).2 3) a ≠ none) : ∀ (m k N : Nat), k + m = a → m < N → z_run zM_X5_isLowest zc_X5_isLowest zk_X5_isLowest N 14 [(0, .inr (.inl (3, 0, 0))), (1, .inl (nI a)), (2, .inl (nI k))] g (0, 0) = some (.inl (some (.inl (if q_sc (fun j => decide (q_sh P n ((g 0 0).2 3) j = q_sh P n ((g 0 0).2 3) a)) m k = a then 1 else 0))), g) := by
  have hn := h.1.1.1
  intro m
  induction m with
  | zero =>
    intro k N hk hN
    obtain ⟨N, rfl⟩ : ∃ N', N = N' + 1 := ⟨N - 1, by omega⟩
    have e : k = a := by omega
    subst e
    rw [zu_X5_isLowest_14, if_pos (nI_le (Nat.le_refl _) (by omega)), q_11, q_sc, if_pos rfl]
  | succ m ih =>
    intro k N hk hN
    obtain ⟨N, rfl⟩ : ∃ N', N = N' + 1 := ⟨N - 1, by omega⟩
    rw [zu_X5_isLowest_14, if_neg (nI_ge (by omega) (by omega)), q_mlike h hlt (show k < n by omega) ha, q_bI, nI_1, q_sc]
    by_cases c : q_sh P n ((g 0 0).2 3) k = q_sh P n ((g 0 0).2 3) a
    · rw [if_pos (show q_sh P n ((g 0 0).2 3) k ≠ none ∧ q_sh P n ((g 0 0).2 3) k = q_sh P n ((g 0 0).2 3) a from ⟨by rw [c]; exact hs, c⟩), if_neg (show ¬ (1 : Int32) = 0 by decide), q_00, decide_eq_true c, if_pos (show true = true from rfl), if_neg (show ¬ k = a by omega)]
    · rw [if_neg (show ¬ (q_sh P n ((g 0 0).2 3) k ≠ none ∧ q_sh P n ((g 0 0).2 3) k = q_sh P n ((g 0 0).2 3) a) from fun hc => c hc.2), if_pos (show (0 : Int32) = 0 from rfl), decide_eq_false c, if_neg (show ¬ false = true by decide)]
      exact ih (k + 1) N (by omega) (by omega)
theorem q_mlow (h : q_lkM P n tp g) (hlt : ∀ a, a < n → ∀ w, q_wA P n ((g 0 0).2 3) a = some w → w < 8) {a : Nat} (ha : a < n) : zF_X5_isLowest [.inr (.inl (3, 0, 0)), .inl (nI a)] g = some (.inl (some (.inl (if q_lw (q_sh P n ((g 0 0).2 3)) a then 1 else 0))), g) := by
  have hn := h.1.1.1
  rw [(ze_X5_isLowest (nI a) g).trans (zu_X5_isLowest_0 99999 (nI a) g), if_pos (q_inb' (show a < 30 by omega) (by decide)), nI_clamp (by omega), h.2 a ha]
  cases hw : q_wA P n ((g 0 0).2 3) a with
  | none =>
    rw [if_pos (show q_cI none = -1 from rfl), q_00, q_lw_none (show q_sh P n ((g 0 0).2 3) a = none by unfold q_sh; rw [hw]; rfl)]
    rfl
  | some w =>
    have hs : q_sh P n ((g 0 0).2 3) a ≠ none := by
      unfold q_sh
      rw [hw]
      exact fun hc => nomatch hc
    rw [if_neg (show ¬ q_cI (some w) = -1 from q_nI_m1 (by have := hlt a ha w hw; omega))]
    refine (q_mlow14 h hlt ha hs a 0 99999 (by omega) (by omega)).trans ?_
    unfold q_lw
    rw [Option.isSome_iff_ne_none.mpr hs, Bool.true_and]
    simp only [decide_eq_true_eq]
theorem q_mshapes13 (h : q_lkM P n tp g) (hlt : ∀ a, a < n → ∀ w, q_wA P n ((g 0 0).2 3) a = some w → w < 8) : ∀ (m k N : Nat), k + m = n → m < N → z_run zM_X5_shapes zc_X5_shapes zk_X5_shapes N 13 [(0, .inr (.inl (3, 0, 0))), (1, .inl (nI (fb_ct (q_lw (q_sh P n ((g 0 0).2 3))) k))), (2, .inl (nI k))] g (0, 0) = some (.inl (some (.inl (nI (fb_ct (q_lw (q_sh P n ((g 0 0).2 3))) n)))), g) := by
  have hn := h.1.1.1
  have h16 := h.1.2.2.2.2.1.1
  intro m
  induction m with
  | zero =>
    intro k N hk hN
    obtain ⟨N, rfl⟩ : ∃ N', N = N' + 1 := ⟨N - 1, by omega⟩
    have e : k = n := by omega
    subst e
    rw [zu_X5_shapes_13, h16, if_pos (nI_le (Nat.le_refl _) (by omega))]
  | succ m ih =>
    intro k N hk hN
    obtain ⟨N, rfl⟩ : ∃ N', N = N' + 1 := ⟨N - 1, by omega⟩
    have ih1 := ih (k + 1) N (by omega) (by omega)
    rw [fb_ct_succ] at ih1
    rw [zu_X5_shapes_13, h16, if_neg (nI_ge (by omega) (by omega)), q_mlow h hlt (show k < n by omega), q_bI, nI_1]
    cases hl : q_lw (q_sh P n ((g 0 0).2 3)) k with
    | true =>
      rw [hl] at ih1
      rw [if_neg (show ¬ (if true = true then (1 : Int32) else 0) = 0 by decide), nI_1]
      exact ih1
    | false =>
      rw [hl] at ih1
      rw [if_pos (show (if false = true then (1 : Int32) else 0) = 0 by decide), Int32.add_zero]
      exact ih1
end Lk
theorem q_s_shapes : q_sim (fun _ => 0) zF_X4_shapes zF_X5_shapes [] := by
  intro g hg
  obtain ⟨P, n, tp, h⟩ := hg
  have hn := h.1.1
  obtain ⟨g1, e1, hI1, hf, -⟩ := q_brg h
  obtain ⟨y', e2, k2, t0⟩ := q_mfw (q_INV_t (v := 0) hI1) (q_t0 _ _)
  have ex := q_xshapes8 ⟨hI1, hf⟩ n 0 99999 0 (by omega) (by omega) (q_seen_0 _)
  have em := q_mshapes13 k2 (fun a ha w hw => q_wA_lt hI1 hf ha hw) n 0 99999 (by omega) (by omega)
  refine ⟨.inl (some (.inl (nI (fb_ct (q_lw (q_sh P n ((g1 0 0).2 3))) n)))), g1, _, _, ?_, ?_, ⟨?_, rfl⟩, P, n, tp, k2.1⟩
  · rw [(ze_X4_shapes g).trans (zu_X4_shapes_0 99999 g), e1, q_bV]
    exact ex
  · rw [(ze_X5_shapes g1).trans (zu_X5_shapes_0 99999 g1), e2, q_bV]
    exact em
  · rw [q_O_get]
    exact t0
