/-! ===== pure part: trials of the program ===== -/
def q_eE (E E' : zLS) : Prop := (∀ k, k ≠ 1 → k ≠ 6 → E.1 k = E'.1 k) ∧ E.2 = E'.2
theorem q_op_e (kept : Nat → Int32) (a b : Int32) (o : Nat × Nat) (st : List Int32) {E E' : zLS} (h : q_eE E E') : (q_op kept a b o st E).1 = (q_op kept a b o st E').1 ∧ q_eE (q_op kept a b o st E).2 (q_op kept a b o st E').2 := by
  obtain ⟨k, v⟩ := o
  obtain ⟨h1, h2⟩ := h
  match k with
  | 0 => exact ⟨rfl, h1, h2⟩
  | 1 => exact ⟨rfl, h1, h2⟩
  | 2 => exact ⟨rfl, h1, h2⟩
  | 3 =>
    refine ⟨?_, fun k hk hk6 => ?_, h2⟩
    · show (E.1 0 + 1) :: st = (E'.1 0 + 1) :: st
      rw [h1 0 (by decide) (by decide)]
    · show upd E.1 0 (E.1 0 + 1) k = upd E'.1 0 (E'.1 0 + 1) k
      rw [h1 0 (by decide) (by decide)]
      by_cases e : k = 0
      · subst e
        rw [pk_us, pk_us]
      · rw [pk_un e, pk_un e]
        exact h1 k hk hk6
  | 4 =>
    rcases st with _ | ⟨x, r⟩
    · exact ⟨rfl, h1, h2⟩
    · refine ⟨?_, fun k hk hk6 => ?_, h2⟩
      · show E.2 0 _ :: r = E'.2 0 _ :: r
        rw [h2]
      · show upd E.1 2 _ k = upd E'.1 2 _ k
        rw [h1 2 (by decide) (by decide)]
        by_cases e : k = 2
        · subst e
          rw [pk_us, pk_us]
        · rw [pk_un e, pk_un e]
          exact h1 k hk hk6
  | 5 =>
    rcases st with _ | ⟨x, r⟩
    · exact ⟨rfl, h1, h2⟩
    · refine ⟨rfl, fun k hk hk6 => ?_, h2⟩
      show upd E.1 1 _ k = upd E'.1 1 _ k
      rw [pk_un hk, pk_un hk]
      exact h1 k hk hk6
  | k + 6 =>
    rcases st with _ | ⟨x, _ | ⟨w, r⟩⟩
    · exact ⟨rfl, h1, h2⟩
    · exact ⟨rfl, h1, h2⟩
    · exact ⟨rfl, h1, h2⟩
theorem q_ops_e (kept : Nat → Int32) (a b : Int32) : ∀ (ops : List (Nat × Nat)) (st : List Int32) (E E' : zLS), q_eE E E' → (q_ops kept a b ops st E).1 = (q_ops kept a b ops st E').1 ∧ q_eE (q_ops kept a b ops st E).2 (q_ops kept a b ops st E').2
  | [], st, E, E', h => ⟨rfl, h⟩
  | o :: r, st, E, E', h => by
    obtain ⟨h1, h2⟩ := q_op_e kept a b o st h
    rw [q_ops, q_ops, h1]
    exact q_ops_e kept a b r _ _ _ h2
theorem q_stp_e {E E' : zLS} (i : Nat) (h : q_eE E E') : q_eE (q_stp i E) (q_stp i E') := by
  refine ⟨fun k hk hk6 => ?_, h.2⟩
  show upd (upd E.1 6 _) 5 (E.1 5 + 1) k = upd (upd E'.1 6 _) 5 (E'.1 5 + 1) k
  rw [h.1 5 (by decide) (by decide)]
  by_cases e : k = 5
  · subst e
    rw [pk_us, pk_us]
  · rw [pk_un e, pk_un e, pk_un hk6, pk_un hk6]
    exact h.1 k hk hk6
theorem q_act_e {E E' : zLS} (kd : Nat) (st : List Int32) (h : q_eE E E') : q_eE (q_act kd st E) (q_act kd st E') := by
  obtain ⟨h1, h2⟩ := h
  unfold q_act
  split
  · refine ⟨fun k hk hk6 => ?_, ?_⟩
    · show upd E.1 3 _ k = upd E'.1 3 _ k
      rw [h1 3 (by decide) (by decide)]
      by_cases e : k = 3
      · subst e
        rw [pk_us, pk_us]
      · rw [pk_un e, pk_un e]
        exact h1 k hk hk6
    · show va_up E.2 0 _ = va_up E'.2 0 _
      rw [h2]
  · rw [h1 4 (by decide) (by decide)]
    split
    · refine ⟨fun k hk hk6 => ?_, ?_⟩
      · show upd E.1 4 _ k = upd E'.1 4 _ k
        by_cases e : k = 4
        · subst e
          rw [pk_us, pk_us]
        · rw [pk_un e, pk_un e]
          exact h1 k hk hk6
      · show va_up E.2 1 _ = va_up E'.2 1 _
        rw [h2]
    · exact ⟨h1, h2⟩
  · exact ⟨h1, h2⟩
theorem q_ex_e (kept : Nat → Int32) (a b : Int32) : ∀ (its : List qIt) (i k : Nat) (E E' : zLS), q_eE E E' → q_eE (q_ex kept a b i its k E) (q_ex kept a b i its k E')
  | [], i, k, E, E', h => by rw [q_ex, q_ex]; exact h
  | it :: r, i, 0, E, E', h => by
    obtain ⟨h1, h2⟩ := q_ops_e kept a b it.2.1 [] E E' h
    rw [q_ex, q_ex, h1]
    exact q_ex_e kept a b r _ _ _ _ (q_act_e _ _ (q_stp_e i h2))
  | it :: r, i, k + 1, E, E', h => by
    rw [q_ex, q_ex]
    exact q_ex_e kept a b r _ _ _ _ h
def q_eo : Option zLS → Option zLS → Prop
  | none, none => True
  | some E, some E' => q_eE E E'
  | _, _ => False
def q_eS (S S' : qRS) : Prop := S.1.1 0 = S'.1.1 0 ∧ S.1.2 0 = S'.1.2 0 ∧ ∀ j, q_eo (S.2 j) (S'.2 j)
theorem q_arg_e {P : qP} {A B : Nat → Option zLS} (h : ∀ j, q_eo (A j) (B j)) (i : Nat) : q_arg P A i = q_arg P B i := by
  unfold q_arg
  cases q_by P i with
  | none => rfl
  | some c =>
    have hc := h c
    dsimp only
    revert hc
    cases A c with
    | none => cases B c with
      | none => intro _; rfl
      | some E => intro hc; exact hc.elim
    | some E => cases B c with
      | none => intro hc; exact hc.elim
      | some E' =>
        rintro ⟨h1, h2⟩
        dsimp only
        rw [h1 4 (by decide) (by decide), h2]
theorem q_do_e {P : qP} {v : Nat} {S S' : qRS} (h : q_eS S S') (i : Nat) : q_eS (q_do P v S i) (q_do P v S' i) := by
  obtain ⟨h1, h2, h3⟩ := h
  have hE : q_eE (q_doE P v S i) (q_doE P v S' i) := by
    unfold q_doE
    rw [q_arg_e h3, h1, h2]
    refine q_ex_e _ _ _ _ _ _ _ _ ⟨fun k hk hk6 => ?_, rfl⟩
    show upd (upd (upd (fun _ => 0) 0 _) 1 _) 6 _ k = upd (upd (upd (fun _ => 0) 0 _) 1 _) 6 _ k
    rw [pk_un hk6, pk_un hk6, pk_un hk, pk_un hk]
  refine ⟨?_, ?_, fun j => ?_⟩
  · show upd (upd (upd S.1.1 0 _) 1 _) (10 + q_kd P i) _ 0 = upd (upd (upd S'.1.1 0 _) 1 _) (10 + q_kd P i) _ 0
    rw [pk_un (by omega), pk_un (by decide), pk_us, pk_un (by omega), pk_un (by decide), pk_us]
    exact hE.1 0 (by decide) (by decide)
  · show (q_doE P v S i).2 0 = (q_doE P v S' i).2 0
    rw [hE.2]
  · show q_eo (va_up S.2 i (some _) j) (va_up S'.2 i (some _) j)
    by_cases e : j = i
    · subst e
      rw [va_up_self, va_up_self]
      exact hE
    · rw [va_up_ne _ _ e, va_up_ne _ _ e]
      exact h3 j
theorem q_whO_e {nz : Nat → Int32} {kd : Nat} {A B A' B' : Option zLS} (h : q_eo A A') (h2 : q_eo B B') : q_whO nz kd A B = q_whO nz kd A' B' := by
  cases A with
  | none => cases A' with
    | none => rfl
    | some E => exact h.elim
  | some E => cases A' with
    | none => exact h.elim
    | some E' => cases B with
      | none => cases B' with
        | none => rfl
        | some F => exact h2.elim
      | some F => cases B' with
        | none => exact h2.elim
        | some F' =>
          show q_wh nz kd E F = q_wh nz kd E' F'
          unfold q_wh q_pd q_ln
          rw [h.1 4 (by decide) (by decide), h.2, h2.1 4 (by decide) (by decide), h2.2]
/-! where an ask stands -/
theorem q_pos_is (P : qP) {n a : Nat} (ha : a < n) : q_pos P n a < n ∧ q_lineF (q_tk P) n (q_pos P n a) = a := by
  unfold q_pos
  obtain ⟨i, hi, e⟩ := q_line_onto (q_tk P) ha
  have h1 := q_sc_ge (fun i => decide (q_lineF (q_tk P) n i = a)) n 0
  have h2 : q_sc (fun i => decide (q_lineF (q_tk P) n i = a)) n 0 < 0 + n := by
    rcases Nat.lt_or_ge (q_sc (fun i => decide (q_lineF (q_tk P) n i = a)) n 0) (0 + n) with h | h
    · exact h
    · have h3 := (q_sc_no (fun i => decide (q_lineF (q_tk P) n i = a)) n 0).mp (by omega) i (by omega) (by omega)
      exact absurd e (of_decide_eq_false h3)
  exact ⟨by omega, of_decide_eq_true (q_sc_yes _ n 0 h2)⟩
theorem q_line_eq (P : qP) {n i j : Nat} (hi : i < n) (hj : j < n) (h : q_lineF (q_tk P) n i = q_lineF (q_tk P) n j) : i = j := by
  rcases Nat.lt_trichotomy i j with e | e | e
  · exact absurd h (q_line_inj _ n i j e hj)
  · exact e
  · exact absurd h.symm (q_line_inj _ n j i e hi)
theorem q_runF_none {P : qP} {v n : Nat} {sel : Nat → Bool} {id : Int32} {j : Nat} : ∀ m, m ≤ n → j < n → (∀ i, i < m → sel i = true → i ≠ j) → (q_runF P v (q_lineF (q_tk P) n) sel m (q_S0 P id)).2 (q_lineF (q_tk P) n j) = none
  | 0, _, _, _ => rfl
  | m + 1, hm, hj, h => by
    have ih := q_runF_none (P := P) (v := v) (sel := sel) (id := id) m (by omega) hj (fun i hi hs => h i (by omega) hs)
    rw [q_runF]
    split
    · rename_i hs
      refine (va_up_ne _ _ (fun hc => h m (by omega) hs (q_line_eq P hj (by omega) hc).symm)).trans ih
    · exact ih
theorem q_runF_after {P : qP} {v n : Nat} {sel : Nat → Bool} {S : qRS} {p : Nat} (hp : p < n) : ∀ m, p + 1 ≤ m → m ≤ n → (q_runF P v (q_lineF (q_tk P) n) sel m S).2 (q_lineF (q_tk P) n p) = (q_runF P v (q_lineF (q_tk P) n) sel (p + 1) S).2 (q_lineF (q_tk P) n p)
  | 0, h, _ => absurd h (by omega)
  | m + 1, h, hm => by
    by_cases e : m = p
    · subst e
      rfl
    · have ih := q_runF_after (P := P) (v := v) (sel := sel) (S := S) hp m (by omega) (by omega)
      rw [← ih]
      conv => lhs; rw [q_runF]
      split
      · exact va_up_ne _ _ (fun hc => e (q_line_eq P hp (by omega) hc).symm)
      · rfl
theorem q_xplace {P : qP} {n a : Nat} {g : zSG} (hn : n ≤ 30) (h7 : (g 2 0).1 7 = nI n) (ho : ∀ j, j < n → (g 2 0).2 6 j = nI (q_lineF (q_tk P) n j)) (ha : a < n) : zF_X0_placeOf [.inr (.inl (2, 0, 0)), .inl (nI a)] g = some (.inl (some (.inl (nI (q_pos P n a)))), g) := by
  have key : ∀ (m k N : Nat), k + m = n → m < N → q_sc (fun i => decide (q_lineF (q_tk P) n i = a)) m k < n → z_run zM_X0_placeOf zc_X0_placeOf zk_X0_placeOf N 2 [(0, .inr (.inl (2, 0, 0))), (1, .inl (nI a)), (2, .inl (nI k))] g (0, 0) = some (.inl (some (.inl (nI (q_sc (fun i => decide (q_lineF (q_tk P) n i = a)) m k)))), g) := by
    intro m
    induction m with
    | zero =>
      intro k N hk hN hs
      rw [q_sc] at hs
      omega
    | succ m ih =>
      intro k N hk hN hs
      obtain ⟨N, rfl⟩ : ∃ N', N = N' + 1 := ⟨N - 1, by omega⟩
      have hl := q_line_lt (q_tk P) n k (by omega)
      rw [q_sc] at hs
      rw [zu_X0_placeOf_2, h7, if_neg (nI_ge (by omega) (by omega)), if_pos (q_inb' (show k < 30 by omega) (by decide)), nI_clamp (by omega), ho k (by omega), nI_1, q_sc]
      by_cases c : q_lineF (q_tk P) n k = a
      · rw [if_pos (by rw [c]), if_pos (decide_eq_true c)]
      · rw [if_neg (show ¬ decide (q_lineF (q_tk P) n k = a) = true from fun hc => c (of_decide_eq_true hc))] at hs ⊢
        rw [if_neg (fun hc => c ((nI_eq (by omega) (by omega)).mp hc))]
        exact ih (k + 1) N (by omega) (by omega) hs
  exact ((ze_X0_placeOf (nI a) g).trans (zu_X0_placeOf_0 99999 (nI a) g)).trans (key n 0 99999 (by omega) (by omega) (q_pos_is P ha).1)
/-! the trial runs between two trials -/
def q_tr (P : qP) (n v f p : Nat) (y : zLS) : Prop := (y.1 12 = (q_runF P v (q_lineF (q_tk P) n) (fun _ => true) f (q_S0 P 0)).1.1 0 ∧ y.2 10 = (q_runF P v (q_lineF (q_tk P) n) (fun _ => true) f (q_S0 P 0)).1.2 0 ∧ y.2 9 = q_kp P) ∧ q_zx y ∧ ∀ j, j < 30 → (∃ i, f ≤ i ∧ i ≤ p ∧ j = q_lineF (q_tk P) n i) ∨ q_oX y j ((q_runF P v (q_lineF (q_tk P) n) (fun _ => true) f (q_S0 P 0)).2 j)
theorem q_xmark {P : qP} {S : qRS} {g : zSG} {r : Nat} (hr : r < 4) (h : q_rx P S (g 4 r)) (hz : q_zx (g 4 r)) : ∃ y', zF_X2_mark [.inr (.inl (4, r, 0))] g = some (.inl none, q_O g 4 r y') ∧ q_rx P S y' ∧ q_zx y' ∧ y'.1 12 = S.1.1 0 ∧ y'.2 10 = S.1.2 0 := by
  obtain ⟨⟨h1, h2, h3, h4⟩, h5, h6⟩ := h
  refine ⟨(upd (g 4 r).1 12 ((g 4 r).1 13), va_up (g 4 r).2 10 ((g 4 r).2 0)), ?_, ⟨⟨h1, h2, h3, h4⟩, h5, h6⟩, ⟨hz.1, hz.2.1, hz.1⟩, h1, h3⟩
  rw [(ze_X2_mark r hr g).trans (zu_X2_mark_0 99999 r hr g), q_acp3 hr, q_bV, q_cpy hz.1 hz.2.2]
  simp only [q_gI, q_gA, q_O_get, q_O_O]
theorem q_xback {g : zSG} {r : Nat} (hr : r < 4) (hz : q_zx (g 4 r)) : zF_X2_backToMark [.inr (.inl (4, r, 0))] g = some (.inl none, q_O g 4 r (upd (g 4 r).1 13 ((g 4 r).1 12), va_up (g 4 r).2 0 ((g 4 r).2 10))) := by
  rw [(ze_X2_backToMark r hr g).trans (zu_X2_backToMark_0 99999 r hr g), q_acp4 hr, q_bV, q_cpy hz.2.2 hz.1]
  simp only [q_gI, q_gA, q_O_get, q_O_O]
theorem q_xalw30 {P : qP} {n v f : Nat} {x1 : Int32} (hv : v < 2) (hf : f ≤ n) (hx1 : x1 = nI f) (hw : q_wP P n) : ∀ (m k N : Nat) (g : zSG), k + m = f → q_HX P n g → q_rx P (q_runF P v (q_lineF (q_tk P) n) (fun _ => true) k (q_S0 P 0)) (g 4 (2 + v)) → q_zx (g 4 (2 + v)) →
    ∃ y', z_run zM_X4_doAlwaysIn zc_X4_doAlwaysIn zk_X4_doAlwaysIn (N + m + 1) 30 [(0, .inr (.inl (0, 0, 0))), (1, .inl x1), (2, .inl (nI v)), (3, .inr (.inl (4, 2 + v, 0))), (4, .inl (nI k))] g (0, 0) = z_run zM_X4_doAlwaysIn zc_X4_doAlwaysIn zk_X4_doAlwaysIn N 2 [(0, .inr (.inl (0, 0, 0))), (1, .inl x1), (2, .inl (nI (v + 1)))] (q_O g 4 (2 + v) y') (0, 0) ∧ ∀ p, q_tr P n v f p y' := by
  have hn := hw.1
  subst hx1
  intro m
  induction m with
  | zero =>
    intro k N g hk hH h hz
    have e : k = f := by omega
    subst e
    obtain ⟨y', e1, r1, z1, m1, m2⟩ := q_xmark (show 2 + v < 4 by omega) h hz
    refine ⟨y', ?_, fun p => ⟨⟨m1, m2, r1.1.2.2.2⟩, z1, fun j hj => Or.inr (r1.2.2 j hj)⟩⟩
    rw [zu_X4_doAlwaysIn_30, if_pos (nI_le (Nat.le_refl _) (by omega)), e1, q_bV, nI_1]
  | succ m ih =>
    intro k N g hk hH h hz
    have hl := q_line_lt (q_tk P) n k (by omega)
    obtain ⟨y1, e1, h1, z1, -⟩ := q_xask (g := g) (show 2 + v < 4 by omega) hv hl hw hH.1 hH.2.2.1 h hz
    obtain ⟨y2, e2, h2⟩ := ih (k + 1) N (q_O g 4 (2 + v) y1) (by omega) (q_HX_4 hH) (by rw [q_O_get]; exact h1) (by rw [q_O_get]; exact z1)
    rw [q_O_O] at e2
    refine ⟨y2, ?_, h2⟩
    rw [zu_X4_doAlwaysIn_30, if_neg (nI_ge (by omega) (by omega)), if_pos (q_inb' (show k < 30 by omega) (by decide)), nI_clamp (by omega), hH.2.1 k (by omega), e1, q_bV, nI_1]
    exact e2
theorem q_xalw {P : qP} {n f : Nat} {g : zSG} (hf : f ≤ n) (hw : q_wP P n) (hH : q_HX P n g) (hz : ∀ r, r < 4 → q_zx (g 4 r)) : ∃ y2 y3, zF_X4_doAlwaysIn [.inr (.inl (0, 0, 0)), .inl (nI f)] g = some (.inl none, q_O (q_O g 4 2 y2) 4 3 y3) ∧ ∀ p, q_tr P n 0 f p y2 ∧ q_tr P n 1 f p y3 := by
  have hn := hw.1
  obtain ⟨s2, e1, r1, z1, -⟩ := q_xstart (id := 0) (r := 2) (by decide) hw hH.2.2.2.1 hH.2.2.2.2 (hz 2 (by decide))
  obtain ⟨y2, e2, t2⟩ := q_xalw30 (v := 0) (f := f) (by decide) hf rfl hw f 0 (99998 - f - 1) (q_O g 4 2 s2) (by omega) (q_HX_4 hH) (by rw [q_O_get]; exact r1) (by rw [q_O_get]; exact z1)
  rw [show 2 + 0 = 2 from rfl, q_O_O, show 99998 - f - 1 + f + 1 = 99998 by omega] at e2
  obtain ⟨s3, e3, r3, z3, -⟩ := q_xstart (id := 0) (r := 3) (g := q_O g 4 2 y2) (by decide) hw hH.2.2.2.1 hH.2.2.2.2 (by rw [q_O_i _ _ _ (by decide)]; exact hz 3 (by decide))
  obtain ⟨y3, e4, t3⟩ := q_xalw30 (v := 1) (f := f) (by decide) hf rfl hw f 0 (99998 - f - 2 - f - 1) (q_O (q_O g 4 2 y2) 4 3 s3) (by omega) (q_HX_4 (q_HX_4 hH)) (by rw [q_O_get]; exact r3) (by rw [q_O_get]; exact z3)
  rw [show 2 + 1 = 3 from rfl, q_O_O, show 99998 - f - 2 - f - 1 + f + 1 = 99998 - f - 2 by omega] at e4
  refine ⟨y2, y3, ?_, fun p => ⟨t2 p, t3 p⟩⟩
  have i0 : z_inb (0 : Int32) 2 := q_inb' (k := 0) (by decide) (by decide)
  have i1 : z_inb (nI (0 + 1)) 2 := q_inb' (k := 1) (by decide) (by decide)
  rw [(ze_X4_doAlwaysIn (nI f) g).trans (zu_X4_doAlwaysIn_0 99999 (nI f) g), zu_X4_doAlwaysIn_2, if_neg (by decide), if_pos i0, show 2 + (0 : Int32).toNatClampNeg = 2 from rfl, e1, q_bV]
  refine Eq.trans e2 ?_
  rw [show 99998 - f - 1 = 99998 - f - 2 + 1 by omega, zu_X4_doAlwaysIn_2, if_neg (by decide), if_pos i1, show 2 + (nI (0 + 1)).toNatClampNeg = 3 from rfl, e3, q_bV]
  refine Eq.trans e4 ?_
  obtain ⟨N, hN⟩ : ∃ N, 99998 - f - 2 - f - 1 = N + 1 := ⟨99998 - f - 2 - f - 2, by omega⟩
  rw [hN, zu_X4_doAlwaysIn_2, if_pos (by decide)]
