/-! ===== pure part: the smallest set, on the side of the program ===== -/
theorem q_shlI {k : Nat} (h : k < 31) : (1 : Int32) <<< (nI k &&& 31) = nI (2 ^ k) := q_shl h
theorem q_xisIn {s p i : Nat} {g : zSG} (hs : s < 2 ^ 10) (hi : i < p) (hp : p ≤ 30) : zF_X4_isIn [.inl (nI s), .inl (nI p), .inl (nI i)] g = some (.inl (some (.inl (if s.testBit (p - 1 - i) then 1 else 0))), g) := by
  have e : nI p - 1 - nI i = nI (p - 1 - i) := by
    rw [show (1 : Int32) = nI 1 from rfl, pk_sub (by omega), pk_sub (by omega)]
  rw [(ze_X4_isIn (nI s) (nI p) (nI i) g).trans (zu_X4_isIn_0 99999 (nI s) (nI p) (nI i) g), e, q_shlI (by omega)]
  have hb := fa_bit (n := s) (j := p - 1 - i) (by omega)
  cases ht : s.testBit (p - 1 - i) with
  | false => rw [if_pos (hb.mpr ht), q_00]; rfl
  | true => rw [if_neg (fun hc => by rw [hb.mp hc] at ht; cases ht), q_11]; rfl
theorem q_sl_lo {p s i : Nat} (h : i < p - 10) : q_sl p s i = true := by
  unfold q_sl
  rw [decide_eq_true h]
  rfl
theorem q_sl_mid {p s i : Nat} (h : p - 10 ≤ i) (h2 : i < p) : q_sl p s i = s.testBit (p - 1 - i) := by
  unfold q_sl
  rw [decide_eq_false (by omega), decide_eq_true h2, decide_eq_false (by omega), Bool.false_or, Bool.true_and, Bool.or_false]
theorem q_sl_p {p s : Nat} : q_sl p s p = true := by
  unfold q_sl
  rw [decide_eq_true (show p = p from rfl), Bool.or_true]
theorem q_sl_hi {p s i : Nat} (h : p < i) : q_sl p s i = false := by
  unfold q_sl
  rw [decide_eq_false (by omega), decide_eq_false (by omega), decide_eq_false (by omega)]
  rfl
section Tr
variable {P : qP} {n p s : Nat}
/-- the clearing of what stands from f to p -/
theorem q_xdw37 (hw : q_wP P n) (hp : p < n) {v : Nat} (hv : v < 2) {x1 x4 : Int32} : ∀ (m k N : Nat) (g : zSG), k + m = p + 1 → p - 10 ≤ k → q_HX P n g → (∀ i, p - 10 ≤ i → i < k → (g 4 (2 + v)).2 6 (q_lineF (q_tk P) n i) = 0) →
    ∃ F, z_run zM_X4_isDifferentWith zc_X4_isDifferentWith zk_X4_isDifferentWith (N + m + 1) 37 [(0, .inr (.inl (0, 0, 0))), (1, .inl x1), (2, .inl (nI (p - 10))), (3, .inl (nI p)), (4, .inl x4), (5, .inl (nI v)), (6, .inr (.inl (4, 2 + v, 0))), (7, .inl (nI k))] g (0, 0) = z_run zM_X4_isDifferentWith zc_X4_isDifferentWith zk_X4_isDifferentWith N 69 [(0, .inr (.inl (0, 0, 0))), (1, .inl x1), (2, .inl (nI (p - 10))), (3, .inl (nI p)), (4, .inl x4), (5, .inl (nI v)), (6, .inr (.inl (4, 2 + v, 0))), (7, .inl (nI (p - 10)))] (q_O g 4 (2 + v) ((g 4 (2 + v)).1, va_up (g 4 (2 + v)).2 6 F)) (0, 0) ∧ (∀ i, p - 10 ≤ i → i ≤ p → F (q_lineF (q_tk P) n i) = 0) ∧ ∀ j, (∀ i, p - 10 ≤ i → i ≤ p → j ≠ q_lineF (q_tk P) n i) → F j = (g 4 (2 + v)).2 6 j := by
  have hn := hw.1
  have hv4 : 2 + v < 4 := by omega
  intro m
  induction m with
  | zero =>
    intro k N g hk hk2 hH hF
    refine ⟨(g 4 (2 + v)).2 6, ?_, fun i h1 h2 => hF i h1 (by omega), fun j _ => rfl⟩
    rw [zu_X4_isDifferentWith_37, if_pos (nI_lt (show p < k by omega) (by omega)), q_up_self, show (((g 4 (2 + v)).1, (g 4 (2 + v)).2) : zLS) = g 4 (2 + v) from rfl, q_O_self]
  | succ m ih =>
    intro k N g hk hk2 hH hF
    have hl := q_line_lt (q_tk P) n k (by omega)
    rw [zu_X4_isDifferentWith_37, if_neg (nI_nlt (show k ≤ p by omega) (by omega)), if_pos hv4, if_pos (q_inb' (show k < 30 by omega) (by decide)), if_pos hv4, nI_clamp (show k < 2 ^ 31 by omega), hH.2.1 k (by omega), if_pos (q_inb' (show q_lineF (q_tk P) n k < 30 by omega) (by decide)), nI_clamp (show q_lineF (q_tk P) n k < 2 ^ 31 by omega), nI_1, q_gA]
    obtain ⟨F, e1, e2, e3⟩ := ih (k + 1) N (q_O g 4 (2 + v) ((g 4 (2 + v)).1, va_up (g 4 (2 + v)).2 6 (upd ((g 4 (2 + v)).2 6) (q_lineF (q_tk P) n k) ((0 : Int32) &&& 1)))) (by omega) (by omega) (q_HX_4 hH) (fun i h1 h2 => by
      rw [q_O_get]
      show upd ((g 4 (2 + v)).2 6) (q_lineF (q_tk P) n k) ((0 : Int32) &&& 1) (q_lineF (q_tk P) n i) = 0
      by_cases e : i = k
      · subst e
        first | exact pk_us | rfl
      · rw [pk_un (fun hc => e (q_line_eq P (by omega) (by omega) hc))]
        exact hF i h1 (by omega))
    rw [q_O_get, q_O_O, bx_uu] at e1
    refine ⟨F, e1, e2, fun j hj => ?_⟩
    rw [e3 j hj, q_O_get]
    exact pk_un (hj k hk2 (by omega))
/-- the asks that are in, up to p -/
theorem q_xdw69 (hw : q_wP P n) (hp : p < n) (hs : s < 2 ^ 10) {v : Nat} (hv : v < 2) {x4 : Int32} (h4 : x4 = nI (q_lineF (q_tk P) n p)) : ∀ (m k N : Nat) (g : zSG) (U : qRS), k + m = p → p - 10 ≤ k → q_HX P n g → q_rx P U (g 4 (2 + v)) → q_zx (g 4 (2 + v)) → q_eS U (q_runF P v (q_lineF (q_tk P) n) (q_sl p s) k (q_S0 P 0)) →
    ∃ y' U', z_run zM_X4_isDifferentWith zc_X4_isDifferentWith zk_X4_isDifferentWith (N + m + 1) 69 [(0, .inr (.inl (0, 0, 0))), (1, .inl (nI s)), (2, .inl (nI (p - 10))), (3, .inl (nI p)), (4, .inl x4), (5, .inl (nI v)), (6, .inr (.inl (4, 2 + v, 0))), (7, .inl (nI k))] g (0, 0) = z_run zM_X4_isDifferentWith zc_X4_isDifferentWith zk_X4_isDifferentWith N 14 [(0, .inr (.inl (0, 0, 0))), (1, .inl (nI s)), (2, .inl (nI (p - 10))), (3, .inl (nI p)), (4, .inl x4), (5, .inl (nI (v + 1)))] (q_O g 4 (2 + v) y') (0, 0) ∧ q_rx P U' y' ∧ q_zx y' ∧ q_kx (g 4 (2 + v)) y' ∧ q_eS U' (q_runF P v (q_lineF (q_tk P) n) (q_sl p s) (p + 1) (q_S0 P 0)) ∧ ∀ j, (∀ i, p - 10 ≤ i → i ≤ p → j ≠ q_lineF (q_tk P) n i) → U'.2 j = U.2 j := by
  have hn := hw.1
  have hv4 : 2 + v < 4 := by omega
  have hl := q_line_lt (q_tk P) n p hp
  subst h4
  intro m
  induction m with
  | zero =>
    intro k N g U hk hk2 hH h hz hU
    have e : k = p := by omega
    subst e
    obtain ⟨y1, e1, h1, z1, k1⟩ := q_xask (g := g) hv4 hv hl hw hH.1 hH.2.2.1 h hz
    refine ⟨y1, q_do P v U (q_lineF (q_tk P) n k), ?_, h1, z1, k1, ?_, fun j hj => va_up_ne _ _ (hj k (by omega) (Nat.le_refl _))⟩
    · rw [zu_X4_isDifferentWith_69, if_pos (nI_le (Nat.le_refl _) (by omega)), e1, q_bV, nI_1]
    · rw [q_runF, if_pos q_sl_p]
      exact q_do_e hU _
  | succ m ih =>
    intro k N g U hk hk2 hH h hz hU
    have hlk := q_line_lt (q_tk P) n k (by omega)
    rw [zu_X4_isDifferentWith_69, if_neg (nI_ge (by omega) (by omega)), q_xisIn hs (show k < p by omega) (by omega), q_bI, nI_1]
    cases ht : s.testBit (p - 1 - k) with
    | false =>
      rw [if_pos (show (if false = true then (1 : Int32) else 0) = 0 by decide)]
      exact ih (k + 1) N g U (by omega) (by omega) hH h hz (by rw [q_runF, if_neg (by rw [q_sl_mid hk2 (by omega), ht]; decide)]; exact hU)
    | true =>
      obtain ⟨y1, e1, h1, z1, k1⟩ := q_xask (g := g) hv4 hv hlk hw hH.1 hH.2.2.1 h hz
      obtain ⟨y2, U2, e2, h2, z2, k2, u2, o2⟩ := ih (k + 1) N (q_O g 4 (2 + v) y1) (q_do P v U (q_lineF (q_tk P) n k)) (by omega) (by omega) (q_HX_4 hH) (by rw [q_O_get]; exact h1) (by rw [q_O_get]; exact z1) (by rw [q_runF, if_pos (by rw [q_sl_mid hk2 (by omega), ht])]; exact q_do_e hU _)
      rw [q_O_O] at e2
      rw [q_O_get] at k2
      refine ⟨y2, U2, ?_, h2, z2, ⟨k2.1.trans k1.1, k2.2.trans k1.2⟩, u2, fun j hj => (o2 j hj).trans (va_up_ne _ _ (hj k hk2 (by omega)))⟩
      rw [if_neg (show ¬ (if true = true then (1 : Int32) else 0) = 0 by decide), if_pos (q_inb' (show k < 30 by omega) (by decide)), nI_clamp (by omega), hH.2.1 k (by omega), e1, q_bV]
      exact e2
/-- one version's trial -/
theorem q_xdwv (hw : q_wP P n) (hp : p < n) (hs : s < 2 ^ 10) {v : Nat} (hv : v < 2) {x4 : Int32} (h4 : x4 = nI (q_lineF (q_tk P) n p)) {N : Nat} {g : zSG} (hH : q_HX P n g) (ht : q_tr P n v (p - 10) p (g 4 (2 + v))) :
    ∃ y' E, z_run zM_X4_isDifferentWith zc_X4_isDifferentWith zk_X4_isDifferentWith (N + 60) 14 [(0, .inr (.inl (0, 0, 0))), (1, .inl (nI s)), (2, .inl (nI (p - 10))), (3, .inl (nI p)), (4, .inl x4), (5, .inl (nI v))] g (0, 0) = z_run zM_X4_isDifferentWith zc_X4_isDifferentWith zk_X4_isDifferentWith (N + 59 - (p + 1 - (p - 10) + 1) - (p - (p - 10) + 1)) 14 [(0, .inr (.inl (0, 0, 0))), (1, .inl (nI s)), (2, .inl (nI (p - 10))), (3, .inl (nI p)), (4, .inl x4), (5, .inl (nI (v + 1)))] (q_O g 4 (2 + v) y') (0, 0) ∧ q_tr P n v (p - 10) p y' ∧ q_rsX y' (q_lineF (q_tk P) n p) E ∧ q_eo (some E) ((q_runF P v (q_lineF (q_tk P) n) (q_sl p s) n (q_S0 P 0)).2 (q_lineF (q_tk P) n p)) := by
  have hn := hw.1
  have hv4 : 2 + v < 4 := by omega
  obtain ⟨⟨t1, t2, t3⟩, tz, tr⟩ := ht
  have hl := q_line_lt (q_tk P) n p hp
  have cb : z_inb (nI v) 2 := q_inb' hv (by decide)
  rw [show N + 60 = (N + 59 - (p + 1 - (p - 10) + 1) + (p + 1 - (p - 10)) + 1) + 1 by omega, zu_X4_isDifferentWith_14, if_neg (show ¬ (2 : Int32) ≤ nI v from nI_ge (b := 2) hv (by decide)), if_pos cb, nI_clamp (show v < 2 ^ 31 by omega), q_xback hv4 tz, q_bV]
  obtain ⟨F, e1, F1, F2⟩ := q_xdw37 hw hp hv (x1 := nI s) (x4 := x4) (p + 1 - (p - 10)) (p - 10) (N + 59 - (p + 1 - (p - 10) + 1)) (q_O g 4 (2 + v) (upd (g 4 (2 + v)).1 13 ((g 4 (2 + v)).1 12), va_up (g 4 (2 + v)).2 0 ((g 4 (2 + v)).2 10))) (by omega) (Nat.le_refl _) (q_HX_4 hH) (fun i h1 h2 => absurd h2 (by omega))
  rw [q_O_get, q_O_O] at e1
  rw [q_O_get] at F2
  dsimp only at e1 F2
  have hSf : q_runF P v (q_lineF (q_tk P) n) (q_sl p s) (p - 10) (q_S0 P 0) = q_runF P v (q_lineF (q_tk P) n) (fun _ => true) (p - 10) (q_S0 P 0) := q_runF_cong _ (fun j hj => q_sl_lo hj)
  obtain ⟨y', U', e2, h2, z2, k2, u2, o2⟩ := q_xdw69 hw hp hs hv h4 (p - (p - 10)) (p - 10) (N + 59 - (p + 1 - (p - 10) + 1) - (p - (p - 10) + 1)) (q_O g 4 (2 + v) (upd (g 4 (2 + v)).1 13 ((g 4 (2 + v)).1 12), va_up (va_up (g 4 (2 + v)).2 0 ((g 4 (2 + v)).2 10)) 6 F)) ((fun k => if k = 0 then (q_runF P v (q_lineF (q_tk P) n) (fun _ => true) (p - 10) (q_S0 P 0)).1.1 0 else if k = 1 then (g 4 (2 + v)).1 8 else (g 4 (2 + v)).2 7 (k - 10), va_up (fun _ _ => 0) 0 ((q_runF P v (q_lineF (q_tk P) n) (fun _ => true) (p - 10) (q_S0 P 0)).1.2 0)), (q_runF P v (q_lineF (q_tk P) n) (fun _ => true) (p - 10) (q_S0 P 0)).2) (by omega) (Nat.le_refl _) (q_HX_4 hH) (by
    rw [q_O_get]
    refine ⟨⟨t1, rfl, t2, t3⟩, fun k hk => ?_, fun j hj => ?_⟩
    · show (g 4 (2 + v)).2 7 k = if 10 + k = 0 then _ else if 10 + k = 1 then _ else (g 4 (2 + v)).2 7 (10 + k - 10)
      rw [if_neg (by omega), if_neg (by omega), show 10 + k - 10 = k by omega]
    · by_cases c : ∃ i, p - 10 ≤ i ∧ i ≤ p ∧ j = q_lineF (q_tk P) n i
      · obtain ⟨i, c1, c2, rfl⟩ := c
        rw [q_runF_none (p - 10) (by omega) (show i < n by omega) (fun i' h1 _ => by omega)]
        exact F1 i c1 c2
      · have hj2 := (tr j hj).resolve_left c
        have hF := F2 j (fun i c1 c2 hc => c ⟨i, c1, c2, hc⟩)
        revert hj2
        cases (q_runF P v (q_lineF (q_tk P) n) (fun _ => true) (p - 10) (q_S0 P 0)).2 j with
        | none =>
          intro hj2
          exact hF.trans hj2
        | some E =>
          intro hj2
          exact ⟨hF.trans hj2.1, hj2.2⟩) (by
    rw [q_O_get]
    exact ⟨tz.2.2, tz.2.1, tz.2.2⟩) (by
    rw [hSf]
    exact ⟨rfl, rfl, fun j => by
      cases (q_runF P v (q_lineF (q_tk P) n) (fun _ => true) (p - 10) (q_S0 P 0)).2 j with
      | none => trivial
      | some E => exact ⟨fun _ _ _ => rfl, rfl⟩⟩)
  rw [q_O_O, show N + 59 - (p + 1 - (p - 10) + 1) - (p - (p - 10) + 1) + (p - (p - 10)) + 1 = N + 59 - (p + 1 - (p - 10) + 1) by omega] at e2
  rw [q_O_get] at k2
  have hu := u2.2.2 (q_lineF (q_tk P) n p)
  rw [← q_runF_after hp n (by omega) (Nat.le_refl _)] at hu
  obtain ⟨E2, hE2⟩ := q_runF_some (P := P) (v := v) (L := q_lineF (q_tk P) n) (sel := q_sl p s) (S := q_S0 P 0) (j := p) q_sl_p n hp
  have hr := h2.2.2 (q_lineF (q_tk P) n p) (by omega)
  revert hr hu
  cases hU : U'.2 (q_lineF (q_tk P) n p) with
  | none =>
    intro hu hr
    rw [hE2] at hu
    exact hu.elim
  | some E =>
    intro hu hr
    refine ⟨y', E, ?_, ⟨⟨?_, ?_, h2.1.2.2.2⟩, z2, fun j hj => ?_⟩, hr.2, hu⟩
    · have e3 := e1.trans e2
      exact e3
    · rw [k2.1]
      exact t1
    · rw [k2.2]
      exact t2
    · by_cases c : ∃ i, p - 10 ≤ i ∧ i ≤ p ∧ j = q_lineF (q_tk P) n i
      · exact Or.inl c
      · have h5 := h2.2.2 j hj
        rw [o2 j (fun i c1 c2 hc => c ⟨i, c1, c2, hc⟩)] at h5
        exact Or.inr h5
theorem q_xdw (hw : q_wP P n) {a : Nat} (ha : a < n) (hp : p = q_pos P n a) (hs : s < 2 ^ 10) {nz : Nat → Int32} {g : zSG} (hH : q_HX P n g) (hnz : (g 0 0).2 3 = nz) (h0 : q_tr P n 0 (p - 10) p (g 4 2)) (h1 : q_tr P n 1 (p - 10) p (g 4 3)) :
    ∃ y2 y3, zF_X4_isDifferentWith [.inr (.inl (0, 0, 0)), .inl (nI s), .inl (nI (p - 10)), .inl (nI p)] g = some (.inl (some (.inl (if q_D P n nz a s then 1 else 0))), q_O (q_O g 4 2 y2) 4 3 y3) ∧ q_tr P n 0 (p - 10) p y2 ∧ q_tr P n 1 (p - 10) p y3 := by
  have hn := hw.1
  obtain ⟨hpn, hpa⟩ := q_pos_is P ha
  rw [← hp] at hpn hpa
  obtain ⟨y2, E, e1, t1, r1, o1⟩ := q_xdwv (N := 99939) hw hpn hs (v := 0) (by decide) rfl hH h0
  obtain ⟨N, hN⟩ : ∃ N, 99939 + 59 - (p + 1 - (p - 10) + 1) - (p - (p - 10) + 1) = N + 60 := ⟨99939 - 1 - (p + 1 - (p - 10) + 1) - (p - (p - 10) + 1), by omega⟩
  obtain ⟨y3, E', e2, t2, r2, o2⟩ := q_xdwv (N := N) (g := q_O g 4 2 y2) hw hpn hs (v := 1) (by decide) rfl (q_HX_4 hH) (by
    show q_tr P n 1 (p - 10) p (q_O g 4 2 y2 4 3)
    rw [q_O_i _ _ _ (by decide)]
    exact h1)
  have hx4 : (g 2 0).2 6 p = nI (q_lineF (q_tk P) n p) := hH.2.1 p hpn
  rw [hN] at e1
  rw [hpa] at r1 r2 o1 o2
  have e3 := q_xwdT (g := q_O (q_O g 4 2 y2) 4 3 y3) (E := E) (E' := E') (show a < 30 by omega) (hw.2.1 a ha).1 (by rw [q_O_i _ _ _ (by decide), q_O_get]; exact r1) (by rw [q_O_get]; exact r2) (hH.1.2.1 a ha).1 hnz
  have eD : q_wh nz (q_kd P a) E E' = q_dif P n nz (q_sl p s) a := by
    unfold q_dif
    exact q_whO_e (A := some E) (B := some E') o1 o2
  refine ⟨y2, y3, ?_, t1, t2⟩
  rw [(ze_X4_isDifferentWith (nI s) (nI (p - 10)) (nI p) g).trans (zu_X4_isDifferentWith_0 99999 (nI s) (nI (p - 10)) (nI p) g), if_pos (q_inb' (show p < 30 by omega) (by decide)), nI_clamp (show p < 2 ^ 31 by omega), hx4]
  refine Eq.trans e1 (Eq.trans e2 ?_)
  obtain ⟨N', hN'⟩ : ∃ N', N + 59 - (p + 1 - (p - 10) + 1) - (p - (p - 10) + 1) = N' + 1 := ⟨N + 59 - (p + 1 - (p - 10) + 1) - (p - (p - 10) + 1) - 1, by omega⟩
  rw [hN', zu_X4_isDifferentWith_14, if_pos (show (2 : Int32) ≤ nI (1 + 1) by decide), hpa]
  rw [show zF_X4_whereDifferent [.inr (.inl (0, 0, 0)), .inl (nI a), .inr (.inl (0, 0, 9))] (q_O (q_O g 4 2 y2) 4 (2 + 1) y3) = _ from e3, q_bI, eD]
  have hw8 : ∀ w, q_dif P n nz (q_sl p s) a = some w → w < 8 := fun w hw2 => by
    rw [← eD] at hw2
    obtain ⟨m, hm, l, -⟩ := r1
    obtain ⟨m', hm', l', -⟩ := r2
    exact q_wh_lt (by rw [q_ln_of l hm]; exact hm) (by rw [q_ln_of l' hm']; exact hm') hw2
  unfold q_D
  rw [← hp]
  cases hd : q_dif P n nz (q_sl p s) a with
  | none =>
    rw [if_pos (show q_cI none = -1 from rfl), q_00]
    rfl
  | some w =>
    rw [if_neg (show ¬ q_cI (some w) = -1 from q_nI_m1 (by have := hw8 w hd; omega)), q_11]
    rfl
end Tr
