/-! ===== pure part: one ask, on the side of the reference ===== -/
def q_mb (P : qP) (n : Nat) (y : zLS) : Prop := y.1 16 = nI n ∧ (∀ i, i < n → y.2 19 i = nI (q_kd P i) ∧ y.2 20 i = q_fa P i ∧ y.2 21 i = q_fb P i ∧ y.2 22 i = nI (q_tk P i) ∧ y.2 23 i = q_cI (q_by P i) ∧ y.2 24 i = nI (q_fd P i)) ∧ (y.2 18 = q_kp P ∧ y.2 17 = q_bg P) ∧ (∀ t, t < 8 → y.2 14 t = nI (q_lm (q_its P t)) ∧ y.2 15 t = nI (q_its P t).length ∧ q_spM (y.2 12) (y.2 13) (500 * t) 0 0 (q_its P t)) ∧ ∀ j, n ≤ j → j < 30 → y.2 24 j = 0
def q_pr (y y' : zLS) : Prop := (∀ k, k ≠ 36 → k ≠ 37 → k ≠ 38 → y'.1 k = y.1 k) ∧ ∀ k, (k < 26 ∨ 34 < k) → y'.2 k = y.2 k
theorem q_pr_refl (y : zLS) : q_pr y y := ⟨fun _ _ _ _ => rfl, fun _ _ => rfl⟩
theorem q_pr_trans {x y z : zLS} (h : q_pr x y) (h2 : q_pr y z) : q_pr x z := ⟨fun k a b c => (h2.1 k a b c).trans (h.1 k a b c), fun k a => (h2.2 k a).trans (h.2 k a)⟩
theorem q_mb_pr {P : qP} {n : Nat} {y y' : zLS} (hb : q_mb P n y) (h : q_pr y y') : q_mb P n y' := by
  obtain ⟨b1, b2, b3, b4⟩ := hb
  unfold q_mb
  rw [h.1 16 (by decide) (by decide) (by decide), h.2 19 (by decide), h.2 20 (by decide), h.2 21 (by decide), h.2 22 (by decide), h.2 23 (by decide), h.2 24 (by decide), h.2 18 (by decide), h.2 17 (by decide), h.2 14 (by decide), h.2 15 (by decide), h.2 12 (by decide), h.2 13 (by decide)]
  exact ⟨b1, b2, b3, b4⟩
def q_rsM (y : zLS) (i : Nat) (E : zLS) : Prop := ∃ m, m ≤ 8 ∧ E.1 4 = nI m ∧ y.2 26 i = nI m ∧ (∀ j, j < m → y.2 27 (i * 8 + j) = E.2 1 j) ∧ y.2 28 i = E.1 2 ∧ y.2 29 i = E.1 3 ∧ y.2 30 i = E.1 5
def q_oM (y : zLS) (i : Nat) : Option zLS → Prop
  | none => y.2 34 i = 0
  | some E => y.2 34 i = 1 ∧ q_rsM y i E
def q_mk (v : Nat) (S : qRS) (w : Nat → Int32) (k : Nat) : Prop := ∃ M, M < 2 ^ 30 ∧ S.1.1 (10 + k) = nI M ∧ ∀ i, i < 30 → w (30 * (v * 4 + k) + i) = if M.testBit i then 1 else 0
def q_rm (n v : Nat) (S : qRS) (y : zLS) : Prop := (y.1 36 = S.1.1 0 ∧ y.1 37 = S.1.1 1 ∧ y.2 31 = S.1.2 0) ∧ (∀ k, k < 4 → q_mk v S (y.2 33) k) ∧ ∀ i, i < n → q_oM y i (S.2 i)
theorem q_V_start (y : zLS) (i : Nat) (m : Int32) (w : Nat → Int32) : (upd y.1 38 0, va_up (va_up (va_up (va_up (va_up y.2 26 (upd (y.2 26) i 0)) 28 (upd (y.2 28) i 0)) 29 (upd (y.2 29) i 0)) 30 (upd (y.2 30) i 0)) 34 w) = q_V (y.1, va_up y.2 34 w) i (y.2 32) (y.2 27) (y.2 33) 0 (q_E0 (y.1 36) (y.1 37) m (y.2 31)) := by
  refine Prod.ext (funext fun k => ?_) (funext fun k => ?_)
  · show upd y.1 38 0 k = upd (upd (upd y.1 37 (y.1 37)) 36 (y.1 36)) 38 0 k
    unfold upd
    by_cases h0 : k = 36
    · subst h0; rfl
    · by_cases h1 : k = 37
      · subst h1; rfl
      · simp [h0, h1]
  · show va_up (va_up (va_up (va_up (va_up y.2 26 (upd (y.2 26) i 0)) 28 (upd (y.2 28) i 0)) 29 (upd (y.2 29) i 0)) 30 (upd (y.2 30) i 0)) 34 w k = va_up (va_up (va_up (va_up (va_up (va_up (va_up (va_up (va_up y.2 34 w) 30 (upd (y.2 30) i 0)) 29 (upd (y.2 29) i 0)) 26 (upd (y.2 26) i 0)) 27 (y.2 27)) 31 (y.2 31)) 28 (upd (y.2 28) i 0)) 33 (y.2 33)) 32 (y.2 32) k
    unfold va_up
    by_cases h0 : k = 26
    · subst h0; rfl
    · by_cases h1 : k = 27
      · subst h1; rfl
      · by_cases h2 : k = 28
        · subst h2; rfl
        · by_cases h3 : k = 29
          · subst h3; rfl
          · by_cases h4 : k = 30
            · subst h4; rfl
            · by_cases h5 : k = 31
              · subst h5; rfl
              · by_cases h7 : k = 32
                · subst h7; rfl
                · by_cases h8 : k = 33
                  · subst h8; rfl
                  · simp [h0, h1, h2, h3, h4, h5, h7, h8]
theorem q_rm_do {P : qP} {n v i : Nat} {S : qRS} {y : zLS} {f fl dn : Nat → Int32} (hv : v < 2) (hi : i < n) (hn : n ≤ 30) (hk : q_kd P i < 4) (h : q_rm n v S y) (han : q_anr (y.2 27) i fl (q_doE P v S i)) (hdr : q_sdr (y.2 33) (v * 4 + q_kd P i) dn (q_doE P v S i)) : q_rm n v (q_do P v S i) (q_V (y.1, va_up y.2 34 (upd (y.2 34) i 1)) i f fl dn 0 (q_doE P v S i)) := by
  obtain ⟨⟨h1, h2, h3⟩, h5, h6⟩ := h
  refine ⟨⟨?_, ?_, rfl⟩, fun k hk => ?_, fun j hj => ?_⟩
  · show (q_doE P v S i).1 0 = upd (upd (upd S.1.1 0 _) 1 _) (10 + q_kd P i) _ 0
    rw [pk_un (by omega), pk_un (by decide), pk_us]
  · show (q_doE P v S i).1 1 = upd (upd (upd S.1.1 0 _) 1 _) (10 + q_kd P i) _ 1
    rw [pk_un (by omega), pk_us]
  · obtain ⟨M, hM, hd6, hd1, hd2⟩ := hdr
    by_cases e : k = q_kd P i
    · subst e
      exact ⟨M, hM, pk_us.trans hd6, hd1⟩
    · obtain ⟨M', hM', e1, e2⟩ := h5 k hk
      refine ⟨M', hM', ?_, fun j hj => ?_⟩
      · show upd (upd (upd S.1.1 0 _) 1 _) (10 + q_kd P i) ((q_doE P v S i).1 6) (10 + k) = nI M'
        rw [pk_un (by omega), pk_un (by omega), pk_un (by omega)]
        exact e1
      · show dn (30 * (v * 4 + k) + j) = _
        rw [hd2 _ (by omega)]
        exact e2 j hj
  · obtain ⟨m, hm, hm4, ha1, ha2⟩ := han
    by_cases e : j = i
    · subst e
      show q_oM _ j (va_up S.2 j (some (q_doE P v S j)) j)
      rw [va_up_self]
      refine ⟨pk_us, m, hm, hm4, ?_, ha1, ?_, ?_, ?_⟩
      · exact (pk_us (f := y.2 26)).trans hm4
      · exact pk_us
      · exact pk_us
      · exact pk_us
    · show q_oM _ j (va_up S.2 i (some (q_doE P v S i)) j)
      rw [va_up_ne _ _ e]
      have h7 := h6 j hj
      revert h7
      cases S.2 j with
      | none =>
        intro h7
        show upd (y.2 34) i 1 j = 0
        rw [pk_un e]
        exact h7
      | some E =>
        rintro ⟨h8, m', hm', k1, k2, k3, k4, k5, k6⟩
        refine ⟨(pk_un e).trans h8, m', hm', k1, ?_, fun l hl => ?_, ?_, ?_, ?_⟩
        · exact (pk_un (f := y.2 26) e).trans k2
        · exact (ha2 _ (by omega)).trans (k3 l hl)
        · exact (pk_un (f := y.2 28) e).trans k4
        · exact (pk_un (f := y.2 29) e).trans k5
        · exact (pk_un (f := y.2 30) e).trans k6
theorem q_V_pr (y : zLS) (i : Nat) (w f fl dn : Nat → Int32) (E : zLS) : q_pr y (q_V (y.1, va_up y.2 34 w) i f fl dn 0 E) := by
  refine ⟨fun k h1 h2 h3 => ?_, fun k hk => ?_⟩
  · show upd (upd (upd y.1 37 _) 36 _) 38 _ k = _
    rw [pk_un h3, pk_un h1, pk_un h2]
  · show va_up (va_up (va_up (va_up (va_up (va_up (va_up (va_up (va_up y.2 34 w) 30 _) 29 _) 26 _) 27 _) 31 _) 28 _) 33 _) 32 _ k = y.2 k
    rw [va_up_ne _ _ (by omega), va_up_ne _ _ (by omega), va_up_ne _ _ (by omega), va_up_ne _ _ (by omega), va_up_ne _ _ (by omega), va_up_ne _ _ (by omega), va_up_ne _ _ (by omega), va_up_ne _ _ (by omega), va_up_ne _ _ (by omega)]
theorem q_mdoes {P : qP} {n : Nat} {g : zSG} {v i : Nat} {S : qRS} (hv : v < 2) (hi : i < n) (hw : q_wP P n) (hb : q_mb P n (g 3 0)) (h : q_rm n v S (g 3 0)) : ∃ y', zF_X5_does [.inr (.inl (3, 0, 0)), .inl (nI v), .inl (nI i)] g = some (.inl none, q_O g 3 0 y') ∧ q_rm n v (q_do P v S i) y' ∧ q_pr (g 3 0) y' := by
  obtain ⟨hn, hw1, hw2, -⟩ := hw
  obtain ⟨w1, w2, w3, w4⟩ := hw1 i hi
  obtain ⟨hb0, hb1, ⟨hb2, hb3⟩, hb4, -⟩ := hb
  obtain ⟨b0, b1, b2, b3, b4, b5⟩ := hb1 i hi
  have ht : v * 4 + q_kd P i < 8 := by omega
  obtain ⟨t1, t2, t3⟩ := hb4 _ ht
  obtain ⟨s1, s2, s3, s4⟩ := hw2 _ ht
  have et : (4 : Int32) * nI v + nI (q_kd P i) = nI (v * 4 + q_kd P i) := by rw [show (4 : Int32) = nI 4 from rfl, pk_mul, nI_add, Nat.mul_comm]
  obtain ⟨M, hM, hM1, hM2⟩ := h.2.1 _ w1
  obtain ⟨f, fl, dn, e1, ha, hd⟩ := q_mitems (y := ((g 3 0).1, va_up (g 3 0).2 34 (upd ((g 3 0).2 34) i 1))) (g := g) (a := q_arg P S.2 i) (b := q_fb P i) (show i < 30 by omega) ht t1 s4 b2 _ (q_its P (v * 4 + q_kd P i)) (Nat.le_refl _) 0 0 99999 (q_E0 ((g 3 0).1 36) ((g 3 0).1 37) (S.1.1 (10 + q_kd P i)) ((g 3 0).2 31)) ((g 3 0).2 32) ((g 3 0).2 27) ((g 3 0).2 33) t3 s1 (by omega) (by omega) (by omega) ⟨0, by decide, rfl, fun j hj => absurd hj (by omega), fun _ _ => rfl⟩ ⟨M, hM, hM1, hM2, fun _ _ => rfl⟩
  have eE2 : q_ex (q_kp P) (q_arg P S.2 i) (q_fb P i) 0 (q_its P (v * 4 + q_kd P i)) 0 (q_E0 ((g 3 0).1 36) ((g 3 0).1 37) (S.1.1 (10 + q_kd P i)) ((g 3 0).2 31)) = q_doE P v S i := by
    obtain ⟨⟨h1, h2, h3⟩, -⟩ := h
    rw [h1, h2, h3]
    rfl
  rw [show (((g 3 0).1, va_up (g 3 0).2 34 (upd ((g 3 0).2 34) i 1)) : zLS).2 18 = q_kp P from hb2, eE2] at e1 ha hd
  refine ⟨_, ?_, q_rm_do (f := f) hv hi hn w1 h ha hd, q_V_pr _ _ _ _ _ _ _⟩
  rw [← e1, ← q_V_start (g 3 0) i (S.1.1 (10 + q_kd P i)) (upd ((g 3 0).2 34) i 1)]
  have hi3 : z_inb (nI i) 30 := q_inb' (show i < 30 by omega) (by decide)
  rw [(ze_X5_does (nI v) (nI i) g).trans (zu_X5_does_0 99999 (nI v) (nI i) g)]
  simp only [if_pos hi3, nI_clamp (show i < 2 ^ 31 by omega), b0, b1, b4, b5, et, q_gI, q_gA, q_O_get, q_O_O, show ((1 : Int32) &&& 1) = 1 from rfl]
  cases hc : q_by P i with
  | none =>
    have ea : q_arg P S.2 i = q_fa P i := by simp only [q_arg, hc]
    rw [show q_cI none = (-1 : Int32) from rfl, if_pos rfl, ea]
    rfl
  | some c =>
    have hcn := w4 c hc
    have hE := h.2.2 c hcn
    rw [show q_cI (some c) = nI c from rfl, if_neg (q_nI_m1 (by omega)), if_pos (q_inb' (show c < 30 by omega) (by decide)), nI_clamp (show c < 2 ^ 31 by omega)]
    cases hsc : S.2 c with
    | none =>
      have ea : q_arg P S.2 i = q_fa P i := by simp only [q_arg, hc, hsc]
      rw [hsc] at hE
      rw [if_pos (show (g 3 0).2 34 c = 0 from hE), ea]
      rfl
    | some E =>
      rw [hsc] at hE
      obtain ⟨h34, m, hm, h4, h26, h6, -⟩ := hE
      rw [if_neg (show ¬ (g 3 0).2 34 c = 0 by rw [h34]; decide), if_pos (q_inb' (show c < 30 by omega) (by decide)), h26]
      by_cases hf : q_fd P i < m
      · have ea : q_arg P S.2 i = E.2 1 (q_fd P i) := by
          simp only [q_arg, hc, hsc]
          rw [h4, nI_clamp (by omega), if_pos hf]
        have e8 : (8 : Int32) * nI c + nI (q_fd P i) = nI (c * 8 + q_fd P i) := by rw [show (8 : Int32) = nI 8 from rfl, pk_mul, nI_add, Nat.mul_comm]
        rw [if_neg (nI_ge hf (by omega)), e8, if_pos (q_inb' (by omega) (by decide)), nI_clamp (by omega), h6 _ hf, ea]
        rfl
      · have ea : q_arg P S.2 i = q_fa P i := by
          simp only [q_arg, hc, hsc]
          rw [h4, nI_clamp (by omega), if_neg hf]
        rw [if_pos (nI_le (by omega) (by omega)), ea]
        rfl
