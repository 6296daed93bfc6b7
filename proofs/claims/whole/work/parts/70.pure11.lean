/-! ===== pure part: calls that look at the runs with all asks ===== -/
theorem q_runF_some {P : qP} {v : Nat} {L : Nat → Nat} {sel : Nat → Bool} {S : qRS} {j : Nat} (hs : sel j = true) : ∀ m, j < m → ∃ E, (q_runF P v L sel m S).2 (L j) = some E
  | 0, h => absurd h (by omega)
  | m + 1, h => by
    rw [q_runF]
    by_cases e : j = m
    · subst e
      rw [if_pos hs]
      exact ⟨_, va_up_self _ _ _⟩
    · obtain ⟨E, hE⟩ := q_runF_some (P := P) (v := v) (L := L) (S := S) hs m (by omega)
      split
      · by_cases e2 : L j = L m
        · rw [e2]
          exact ⟨_, va_up_self _ _ _⟩
        · exact ⟨E, (va_up_ne _ _ e2).trans hE⟩
      · exact ⟨E, hE⟩
theorem q_RA_some (P : qP) {n v i : Nat} (id : Int32) (hi : i < n) : ∃ E, (q_RA P n v id).2 i = some E := by
  obtain ⟨j, hj, rfl⟩ := q_line_onto (q_tk P) hi
  exact q_runF_some (j := j) rfl n hj
theorem q_brg {P : qP} {n tp : Nat} {g : zSG} (h : q_INV P n tp g) : ∃ g1, zF_X4_bringRuns [.inr (.inl (0, 0, 0))] g = some (.inl none, g1) ∧ q_INV P n tp g1 ∧ q_fx P n g1 ∧ g1 3 = g 3 ∧ g1 2 = g 2 ∧ g1 5 = g 5 ∧ (g1 0 0).2 = (g 0 0).2 ∧ (g1 0 0).1 11 = 1 ∧ (∀ k, k ≠ 11 → (g1 0 0).1 k = (g 0 0).1 k) := by
  obtain ⟨h1, h2, h3, h4, h5, h6, h7, h8, h9⟩ := h
  obtain ⟨y0, y1, e1, r0, r1, z0, z1⟩ := q_xbring h1 h2 h3 h4
  have f0 : q_O (q_O (q_O g 4 0 y0) 4 1 y1) 0 0 (upd (g 0 0).1 11 1, (g 0 0).2) 0 0 = (upd (g 0 0).1 11 1, (g 0 0).2) := q_O_get _ _ _ _
  have f40 : q_O (q_O (q_O g 4 0 y0) 4 1 y1) 0 0 (upd (g 0 0).1 11 1, (g 0 0).2) 4 0 = y0 := by
    rw [q_O_c _ _ _ (by decide), q_O_i _ _ _ (by decide), q_O_get]
  have f41 : q_O (q_O (q_O g 4 0 y0) 4 1 y1) 0 0 (upd (g 0 0).1 11 1, (g 0 0).2) 4 1 = y1 := by
    rw [q_O_c _ _ _ (by decide), q_O_get]
  have hf : q_fx P n (q_O (q_O (q_O g 4 0 y0) 4 1 y1) 0 0 (upd (g 0 0).1 11 1, (g 0 0).2)) := by
    unfold q_fx
    rw [f40, f41]
    exact ⟨r0, r1⟩
  refine ⟨_, e1, ⟨h1, ⟨h2.1, h2.2.1, h2.2.2.1, ?_, ?_⟩, fun r hr => ?_, Or.inr ⟨?_, hf⟩, h5, h6, ?_, ?_, ?_⟩, hf, rfl, rfl, rfl, ?_, ?_, fun k hk => ?_⟩
  · rw [f0]
    exact h2.2.2.2.1
  · rw [f0]
    exact h2.2.2.2.2
  · rcases (show r = 0 ∨ r = 1 ∨ r = 2 ∨ r = 3 by omega) with rfl | rfl | rfl | rfl
    · rw [f40]
      exact z0
    · rw [f41]
      exact z1
    · rw [q_O_c _ _ _ (by decide), q_O_i _ _ _ (by decide), q_O_i _ _ _ (by decide)]
      exact h3 2 (by decide)
    · rw [q_O_c _ _ _ (by decide), q_O_i _ _ _ (by decide), q_O_i _ _ _ (by decide)]
      exact h3 3 (by decide)
  · rw [f0]
    first | exact pk_us | rfl
  · rw [f0]
    exact h7
  · rw [f0]
    exact h8
  · rw [f0]
    exact h9
  · rw [f0]
  · rw [f0]
    first | exact pk_us | rfl
  · rw [f0]
    exact pk_un hk
theorem q_rall {P : qP} {n tp v : Nat} {g : zSG} {id : Int32} (hv : v < 2) (h : q_INV P n tp g) (h0 : (g 3 0).1 0 = 0) : ∃ y', zF_X5_runAll [.inr (.inl (3, 0, 0)), .inl (nI v), .inl id] g = some (.inl none, q_O g 3 0 y') ∧ q_rm n v (q_RA P n v id) y' ∧ y'.1 0 = 0 ∧ q_INV P n tp (q_O g 3 0 y') ∧ q_pl (g 3 0) y' ∧ y'.1 35 = nI n ∧ ∀ j, j < n → y'.2 25 j = nI (q_lineF (q_tk P) n j) := by
  have h1 := h
  obtain ⟨w, -, -, -, hb, hz, -⟩ := h1
  obtain ⟨y', e1, e2, e3, e4, e5, e6⟩ := q_mall (id := id) hv w hb hz
  exact ⟨y', e1, e2, (e3.1 0 (by decide) (by decide) (by decide) (by decide)).trans h0, q_INV_M h (q_pw_pl e3) e4, e3, e5, e6⟩
theorem q_fxv {P : qP} {n v : Nat} {g : zSG} (hv : v < 2) (h : q_fx P n g) : q_rx P (q_RA P n v 0) (g 4 v) := by
  rcases (show v = 0 ∨ v = 1 by omega) with rfl | rfl
  · exact h.1
  · exact h.2
/-- the answers of an ask in both -/
theorem q_same {P : qP} {n v i : Nat} {id : Int32} {y y' : zLS} (hi : i < n) (hn : n ≤ 30) (hx : q_rx P (q_RA P n v id) y) (hm : q_rm n v (q_RA P n v id) y') : ∃ E m, (q_RA P n v id).2 i = some E ∧ m ≤ 8 ∧ E.1 4 = nI m ∧ (y.2 6 i = 1 ∧ y.2 2 i = nI m ∧ (∀ j, j < m → y.2 1 (i * 8 + j) = E.2 1 j) ∧ y.2 3 i = E.1 2 ∧ y.2 4 i = E.1 3 ∧ y.2 5 i = E.1 5) ∧ (y'.2 26 i = nI m ∧ (∀ j, j < m → y'.2 27 (i * 8 + j) = E.2 1 j) ∧ y'.2 28 i = E.1 2 ∧ y'.2 29 i = E.1 3 ∧ y'.2 30 i = E.1 5) := by
  obtain ⟨E, hE⟩ := q_RA_some P (v := v) id hi
  have h1 := hx.2.2 i (by omega)
  have h2 := hm.2.2 i hi
  rw [hE] at h1 h2
  obtain ⟨a6, m, hm8, a4, a2, a1, a3, a5, a7⟩ := h1
  obtain ⟨-, m', hm8', b4, b2, b1, b3, b5, b7⟩ := h2
  have e : m' = m := (nI_eq (by omega) (by omega)).mp (b4.symm.trans a4)
  subst e
  exact ⟨E, m', hE, hm8, a4, ⟨a6, a2, a1, a3, a5, a7⟩, b2, b1, b3, b5, b7⟩
/-- a refused call -/
theorem q_sim_bad {em : Nat → Nat} {FX FM : List zVV → zSG → Option zRR} {vs : List zVV} {g : zSG} {e : Nat} {b c : Int32} (h : q_I g) (hX : FX (.inr (.inl (0, 0, 0)) :: vs) g = some (.inr e, g)) (hM : FM (.inr (.inl (3, 0, 0)) :: vs) g = some (.inl (some (.inl b)), z_gI g 3 0 0 c)) (he : em e ≠ 0) (hc : c = nI (em e)) : ∃ rx g1 b g2, FX (.inr (.inl (0, 0, 0)) :: vs) g = some (rx, g1) ∧ FM (.inr (.inl (3, 0, 0)) :: vs) g1 = some (.inl (some (.inl b)), g2) ∧ q_rel em b ((g2 3 0).1 0) rx ∧ q_I g2 := by
  obtain ⟨P, n, tp, h⟩ := h
  refine ⟨_, _, _, _, hX, hM, ⟨he, ?_⟩, P, n, tp, q_INV_t h⟩
  rw [q_t0]
  exact hc
theorem q_s_fields (x1 x2 : Int32) : q_sim q_eNI zF_X4_fields zF_X5_fields [.inl x1, .inl x2] := by
  intro g hg
  have hg' := hg
  obtain ⟨P, n, tp, h⟩ := hg
  have hn := h.1.1
  have hX7 := h.2.1.1.1
  have hM16 := h.2.2.2.2.1.1
  by_cases ha : ∃ k, k < n ∧ x2 = nI k
  · obtain ⟨i, hi, rfl⟩ := ha
    by_cases hv : ∃ k, k < 2 ∧ x1 = nI k
    · obtain ⟨v, hv, rfl⟩ := hv
      obtain ⟨g1, e1, hI1, hf, k3, -⟩ := q_brg h
      obtain ⟨y', e2, hr, ht, hI2, -⟩ := q_rall (id := 0) hv (q_INV_t (v := 0) hI1) (q_t0 _ _)
      have hx := q_fxv hv hf
      obtain ⟨E, m, hE, hm, h4, hX, hM⟩ := q_same hi hn hx hr
      refine ⟨.inl (some (.inl (nI m))), g1, nI m, _, ?_, ?_, ⟨?_, rfl⟩, P, n, tp, hI2⟩
      · rw [(ze_X4_fields (nI v) (nI i) g).trans (zu_X4_fields_0 99999 (nI v) (nI i) g), q_ckA_ok hX7 hn hi, q_bV, q_ckV_ok hv, q_bV, e1, q_bV, if_pos (q_inb' hv (by decide)), nI_clamp (by omega), if_pos (by omega), if_pos (by omega), if_pos (q_inb' (show i < 30 by omega) (by decide)), nI_clamp (by omega), hX.2.1]
      · rw [(ze_X5_fields (nI v) (nI i) g1).trans (zu_X5_fields_0 99999 (nI v) (nI i) g1), q_isA_ok (q_t0 _ _) ((q_t16 _ _).trans hI1.2.2.2.2.1.1) hn hi, q_bI, if_neg (by decide), q_isV_ok hv, q_bI, q_may1 (q_t0 _ _), q_bI, if_neg (by decide), e2, q_bV, if_pos (q_inb' (show i < 30 by omega) (by decide)), nI_clamp (by omega), q_O_get, hM.1]
      · rw [q_O_get]
        exact ht
    · have hv2 : x1 < 0 ∨ nI 2 ≤ x1 := by
        rcases pk_ix x1 (n := 2) (by decide) with h1 | h1 | h1
        · exact Or.inl h1
        · exact Or.inr h1
        · exact absurd h1 hv
      refine q_sim_bad (b := 0) (e := 0) (c := 2) hg' ?_ ?_ (by decide) rfl
      · rw [(ze_X4_fields x1 (nI i) g).trans (zu_X4_fields_0 99999 x1 (nI i) g), q_ckA_ok hX7 hn hi, q_bV, q_ckV_bad hv2, q_bVx]
      · rw [(ze_X5_fields x1 (nI i) g).trans (zu_X5_fields_0 99999 x1 (nI i) g), q_isA_ok (q_t0 _ _) ((q_t16 _ _).trans hM16) hn hi, q_bI, if_neg (by decide), q_isV_bad hv2, q_bI, q_may0 (q_t0 _ _) (by decide), q_bI, if_pos rfl, q_tt]
  · have ha2 : x2 < 0 ∨ nI n ≤ x2 := by
      rcases pk_ix x2 (n := n) (by omega) with h1 | h1 | h1
      · exact Or.inl h1
      · exact Or.inr h1
      · exact absurd h1 ha
    refine q_sim_bad (b := 0) (e := 2) (c := 1) hg' ?_ ?_ (by decide) rfl
    · rw [(ze_X4_fields x1 x2 g).trans (zu_X4_fields_0 99999 x1 x2 g), q_ckA_bad hX7 ha2, q_bVx]
    · rw [(ze_X5_fields x1 x2 g).trans (zu_X5_fields_0 99999 x1 x2 g), q_isA_bad (q_t0 _ _) ((q_t16 _ _).trans hM16) hn ha2, q_bI, if_pos rfl, q_tt]
theorem q_ix (x : Int32) {n : Nat} (hn : n < 2 ^ 31) : (∃ k, k < n ∧ x = nI k) ∨ (x < 0 ∨ nI n ≤ x) := by
  rcases pk_ix x hn with h1 | h1 | h1
  · exact Or.inr (Or.inl h1)
  · exact Or.inr (Or.inr h1)
  · exact Or.inl h1
theorem q_xhasX {g : zSG} {r i m : Nat} {x : Int32} (hr : r < 4) (hi : i < 30) (h6 : (g 4 r).2 6 i = 1) (h2 : (g 4 r).2 2 i = nI m) (hm : m ≤ 8) : zF_X2_has [.inr (.inl (4, r, 0)), .inl (nI i), .inl x] g = some (.inl (some (.inl (if x < 0 ∨ nI m ≤ x then 0 else 1))), g) := by
  rw [(ze_X2_has (nI i) x r hr g).trans (zu_X2_has_0 99999 (nI i) x r hr g), if_pos (q_inb' hi (by decide)), nI_clamp (by omega), if_neg (show ¬ (g 4 r).2 6 i = 0 by rw [h6]; decide), h2]
  by_cases h0 : x < 0
  · rw [if_pos h0, q_00, if_pos (Or.inl h0)]
  · rw [if_neg h0, if_pos (q_inb' hi (by decide))]
    by_cases h1 : nI m ≤ x
    · rw [if_pos h1, q_00, if_pos (Or.inr h1)]
    · rw [if_neg h1, q_11, if_neg (fun hc => hc.elim h0 h1)]
theorem q_s_field (x1 x2 x3 : Int32) : q_sim q_eNI zF_X4_field zF_X5_field [.inl x1, .inl x2, .inl x3] := by
  intro g hg
  have hg' := hg
  obtain ⟨P, n, tp, h⟩ := hg
  have hn := h.1.1
  have hX7 := h.2.1.1.1
  have hM16 := h.2.2.2.2.1.1
  rcases q_ix x2 (n := n) (by omega) with ⟨i, hi, rfl⟩ | ha2
  · rcases q_ix x1 (n := 2) (by decide) with ⟨v, hv, rfl⟩ | hv2
    · obtain ⟨g1, e1, hI1, hf, k3, -⟩ := q_brg h
      obtain ⟨y', e2, hr, ht, hI2, -⟩ := q_rall (id := 0) hv (q_INV_t (v := 0) hI1) (q_t0 _ _)
      have hx := q_fxv hv hf
      obtain ⟨E, m, hE, hm, h4, hX, hM⟩ := q_same hi hn hx hr
      rcases q_ix x3 (n := m) (by omega) with ⟨f, hf3, rfl⟩ | hb3
      · have e8 : nI i * (8 : Int32) + nI f = nI (i * 8 + f) := by rw [show (8 : Int32) = nI 8 from rfl, pk_mul, nI_add]
        have e8' : (8 : Int32) * nI i + nI f = nI (i * 8 + f) := by rw [show (8 : Int32) = nI 8 from rfl, pk_mul, nI_add, Nat.mul_comm]
        obtain ⟨m, rfl⟩ : ∃ m', m = m' + 1 := ⟨m - 1, by omega⟩
        refine ⟨.inl (some (.inl (E.2 1 f))), g1, E.2 1 f, _, ?_, ?_, ⟨?_, rfl⟩, P, n, tp, hI2⟩
        · rw [(ze_X4_field (nI v) (nI i) (nI f) g).trans (zu_X4_field_0 99999 (nI v) (nI i) (nI f) g), q_ckA_ok hX7 hn hi, q_bV, q_ckV_ok hv, q_bV, e1, q_bV, if_pos (q_inb' hv (by decide)), nI_clamp (show v < 2 ^ 31 by omega), q_xhasX (by omega) (by omega) hX.1 hX.2.1 hm, q_bI, if_neg (show ¬ (nI f < 0 ∨ nI (m + 1) ≤ nI f) from fun hc => hc.elim (nI_pos (by omega)) (nI_ge (by omega) (by omega))), if_neg (by decide), if_pos (by omega), if_pos (by omega), e8, if_pos (q_inb' (by omega) (by decide)), nI_clamp (by omega), hX.2.2.1 f hf3]
        · rw [(ze_X5_field (nI v) (nI i) (nI f) g1).trans (zu_X5_field_0 99999 (nI v) (nI i) (nI f) g1), q_isA_ok (q_t0 _ _) ((q_t16 _ _).trans hI1.2.2.2.2.1.1) hn hi, q_bI, if_neg (by decide), q_isV_ok hv, q_bI, q_may1 (q_t0 _ _), q_bI, if_neg (by decide), e2, q_bV, if_pos (q_inb' (show i < 30 by omega) (by decide)), nI_clamp (by omega), q_O_get, hM.1, nI_pred, q_wn_ok rfl (by omega) (by omega), q_bI, if_neg (by decide), e8', if_pos (q_inb' (by omega) (by decide)), nI_clamp (by omega), q_O_get, hM.2.1 f hf3]
        · rw [q_O_get]
          exact ht
      · have ew : ∀ g, zF_X5_within [.inl x3, .inl (0 : Int32), .inl (nI m - 1)] g = some (.inl (some (.inl 0)), g) := by
          intro g
          refine q_wi_bad ?_
          rcases hb3 with h1 | h1
          · exact Or.inl h1
          · refine Or.inr (fa_trans (b := nI m) ?_ h1)
            rw [fa_lt, show (1 : Int32) = nI 1 from rfl, pk_sub_toInt (by omega) (by decide), nI_toInt (by omega)]
            omega
        refine ⟨.inl (some (.inl 0)), g1, 0, _, ?_, ?_, ⟨?_, rfl⟩, P, n, tp, hI2⟩
        · rw [(ze_X4_field (nI v) (nI i) x3 g).trans (zu_X4_field_0 99999 (nI v) (nI i) x3 g), q_ckA_ok hX7 hn hi, q_bV, q_ckV_ok hv, q_bV, e1, q_bV, if_pos (q_inb' hv (by decide)), nI_clamp (show v < 2 ^ 31 by omega), q_xhasX (by omega) (by omega) hX.1 hX.2.1 hm, q_bI, if_pos hb3, if_pos rfl]
        · rw [(ze_X5_field (nI v) (nI i) x3 g1).trans (zu_X5_field_0 99999 (nI v) (nI i) x3 g1), q_isA_ok (q_t0 _ _) ((q_t16 _ _).trans hI1.2.2.2.2.1.1) hn hi, q_bI, if_neg (by decide), q_isV_ok hv, q_bI, q_may1 (q_t0 _ _), q_bI, if_neg (by decide), e2, q_bV, if_pos (q_inb' (show i < 30 by omega) (by decide)), nI_clamp (by omega), q_O_get, hM.1, ew, q_bI, if_pos rfl]
        · rw [q_O_get]
          exact ht
    · refine q_sim_bad (b := 0) (e := 0) (c := 2) hg' ?_ ?_ (by decide) rfl
      · rw [(ze_X4_field x1 (nI i) x3 g).trans (zu_X4_field_0 99999 x1 (nI i) x3 g), q_ckA_ok hX7 hn hi, q_bV, q_ckV_bad hv2, q_bVx]
      · rw [(ze_X5_field x1 (nI i) x3 g).trans (zu_X5_field_0 99999 x1 (nI i) x3 g), q_isA_ok (q_t0 _ _) ((q_t16 _ _).trans hM16) hn hi, q_bI, if_neg (by decide), q_isV_bad hv2, q_bI, q_may0 (q_t0 _ _) (by decide), q_bI, if_pos rfl, q_tt]
  · refine q_sim_bad (b := 0) (e := 2) (c := 1) hg' ?_ ?_ (by decide) rfl
    · rw [(ze_X4_field x1 x2 x3 g).trans (zu_X4_field_0 99999 x1 x2 x3 g), q_ckA_bad hX7 ha2, q_bVx]
    · rw [(ze_X5_field x1 x2 x3 g).trans (zu_X5_field_0 99999 x1 x2 x3 g), q_isA_bad (q_t0 _ _) ((q_t16 _ _).trans hM16) hn ha2, q_bI, if_pos rfl, q_tt]
theorem q_s_end (x1 x2 : Int32) : q_sim q_eXI zF_X4_end zF_X5_end [.inl x1, .inl x2] := by
  intro g hg
  have hg' := hg
  obtain ⟨P, n, tp, h⟩ := hg
  have hn := h.1.1
  rcases q_ix x2 (n := 8) (by decide) with ⟨i, hi, rfl⟩ | ha2
  · rcases q_ix x1 (n := 2) (by decide) with ⟨v, hv, rfl⟩ | hv2
    · obtain ⟨g1, e1, hI1, hf, k3, -⟩ := q_brg h
      obtain ⟨y', e2, hr, ht, hI2, -⟩ := q_rall (id := 0) hv (q_INV_t (v := 0) hI1) (q_t0 _ _)
      have hx := q_fxv hv hf
      refine ⟨.inl (some (.inl ((q_RA P n v 0).1.2 0 i))), g1, (q_RA P n v 0).1.2 0 i, _, ?_, ?_, ⟨?_, rfl⟩, P, n, tp, hI2⟩
      · rw [(ze_X4_end (nI v) (nI i) g).trans (zu_X4_end_0 99999 (nI v) (nI i) g), q_ckY_ok hi, q_bV, q_ckV_ok hv, q_bV, e1, q_bV, if_pos (q_inb' hv (by decide)), nI_clamp (by omega), if_pos (by omega), if_pos (by omega), if_pos (q_inb' hi (by decide)), nI_clamp (by omega), hx.1.2.2.1]
      · rw [(ze_X5_end (nI v) (nI i) g1).trans (zu_X5_end_0 99999 (nI v) (nI i) g1), q_wn_ok (hi := (7 : Int32)) (m := 7) rfl (by omega) (by decide), q_bI, q_may1 (q_t0 _ _), q_bI, if_neg (by decide), q_isV_ok hv, q_bI, q_may1 (q_t0 _ _), q_bI, if_neg (by decide), e2, q_bV, if_pos (q_inb' hi (by decide)), nI_clamp (by omega), q_O_get, hr.1.2.2]
      · rw [q_O_get]
        exact ht
    · refine q_sim_bad (b := 0) (e := 0) (c := 2) hg' ?_ ?_ (by decide) rfl
      · rw [(ze_X4_end x1 (nI i) g).trans (zu_X4_end_0 99999 x1 (nI i) g), q_ckY_ok hi, q_bV, q_ckV_bad hv2, q_bVx]
      · rw [(ze_X5_end x1 (nI i) g).trans (zu_X5_end_0 99999 x1 (nI i) g), q_wn_ok (hi := (7 : Int32)) (m := 7) rfl (by omega) (by decide), q_bI, q_may1 (q_t0 _ _), q_bI, if_neg (by decide), q_isV_bad hv2, q_bI, q_may0 (q_t0 _ _) (by decide), q_bI, if_pos rfl, q_tt]
  · refine q_sim_bad (b := 0) (e := 1) (c := 1) hg' ?_ ?_ (by decide) rfl
    · rw [(ze_X4_end x1 x2 g).trans (zu_X4_end_0 99999 x1 x2 g), q_ckY_bad ha2, q_bVx]
    · rw [(ze_X5_end x1 x2 g).trans (zu_X5_end_0 99999 x1 x2 g), q_wn_bad (hi := (7 : Int32)) (m := 7) rfl ha2 (by decide), q_bI, q_may0 (q_t0 _ _) (by decide), q_bI, if_pos rfl, q_tt]
theorem q_s_calls (x1 : Int32) : q_sim q_eI zF_X4_calls zF_X5_calls [.inl x1] := by
  intro g hg
  have hg' := hg
  obtain ⟨P, n, tp, h⟩ := hg
  have hn := h.1.1
  rcases q_ix x1 (n := 2) (by decide) with ⟨v, hv, rfl⟩ | hv2
  · obtain ⟨g1, e1, hI1, hf, k3, -⟩ := q_brg h
    obtain ⟨y', e2, hr, ht, hI2, -⟩ := q_rall (id := 0) hv (q_INV_t (v := 0) hI1) (q_t0 _ _)
    have hx := q_fxv hv hf
    refine ⟨.inl (some (.inl ((q_RA P n v 0).1.1 1))), g1, (q_RA P n v 0).1.1 1, _, ?_, ?_, ⟨?_, rfl⟩, P, n, tp, hI2⟩
    · rw [(ze_X4_calls (nI v) g).trans (zu_X4_calls_0 99999 (nI v) g), q_ckV_ok hv, q_bV, e1, q_bV, if_pos (q_inb' hv (by decide)), nI_clamp (by omega), if_pos (by omega), hx.1.2.1]
    · rw [(ze_X5_calls (nI v) g1).trans (zu_X5_calls_0 99999 (nI v) g1), q_isV_ok hv, q_bI, q_may1 (q_t0 _ _), q_bI, if_neg (by decide), e2, q_bV, q_O_get, hr.1.2.1]
    · rw [q_O_get]
      exact ht
  · refine q_sim_bad (b := 0) (e := 0) (c := 1) hg' ?_ ?_ (by decide) rfl
    · rw [(ze_X4_calls x1 g).trans (zu_X4_calls_0 99999 x1 g), q_ckV_bad hv2, q_bVx]
    · rw [(ze_X5_calls x1 g).trans (zu_X5_calls_0 99999 x1 g), q_isV_bad hv2, q_bI, q_may0 (q_t0 _ _) (by decide), q_bI, if_pos rfl, q_tt]
theorem q_s_touched (x1 x2 x3 : Int32) : q_sim q_eNI zF_X4_touched zF_X5_touched [.inl x1, .inl x2, .inl x3] := by
  intro g hg
  have hg' := hg
  obtain ⟨P, n, tp, h⟩ := hg
  have hn := h.1.1
  have hX7 := h.2.1.1.1
  have hM16 := h.2.2.2.2.1.1
  rcases q_ix x2 (n := n) (by omega) with ⟨i, hi, rfl⟩ | ha2
  · rcases q_ix x1 (n := 2) (by decide) with ⟨v, hv, rfl⟩ | hv2
    · rcases q_ix x3 (n := 3) (by decide) with ⟨w, hw, rfl⟩ | hw2
      · obtain ⟨g1, e1, hI1, hf, k3, -⟩ := q_brg h
        obtain ⟨y', e2, hr, ht, hI2, -⟩ := q_rall (id := 0) hv (q_INV_t (v := 0) hI1) (q_t0 _ _)
        have hx := q_fxv hv hf
        obtain ⟨E, m, hE, hm, h4, hX, hM⟩ := q_same hi hn hx hr
        refine ⟨.inl (some (.inl (if w = 0 then E.1 2 else if w = 1 then E.1 3 else E.1 5))), g1, (if w = 0 then E.1 2 else if w = 1 then E.1 3 else E.1 5), _, ?_, ?_, ⟨?_, rfl⟩, P, n, tp, hI2⟩
        · rw [(ze_X4_touched (nI v) (nI i) (nI w) g).trans (zu_X4_touched_0 99999 (nI v) (nI i) (nI w) g), q_ckA_ok hX7 hn hi, q_bV, q_ckV_ok hv, q_bV, if_neg (nI_pos (by omega)), if_pos (show nI w ≤ (2 : Int32) from nI_le (b := 2) (by omega) (by decide)), e1, q_bV, if_pos (q_inb' hv (by decide)), nI_clamp (show v < 2 ^ 31 by omega), nI_clamp (show i < 2 ^ 31 by omega), hX.2.2.2.1, hX.2.2.2.2.1, hX.2.2.2.2.2]
          simp only [if_pos (show v < 4 by omega), if_pos (q_inb' (show i < 30 by omega) (by decide))]
          rcases (show w = 0 ∨ w = 1 ∨ w = 2 by omega) with rfl | rfl | rfl
          · rfl
          · rfl
          · rfl
        · rw [(ze_X5_touched (nI v) (nI i) (nI w) g1).trans (zu_X5_touched_0 99999 (nI v) (nI i) (nI w) g1), q_isA_ok (q_t0 _ _) ((q_t16 _ _).trans hI1.2.2.2.2.1.1) hn hi, q_bI, if_neg (by decide), q_isV_ok hv, q_bI, if_neg (by decide), q_wn_ok (hi := (2 : Int32)) (m := 2) rfl (by omega) (by decide), q_bI, if_neg (by decide), q_may1 (q_t0 _ _), q_bI, if_neg (by decide), zu_X5_touched_44, e2, q_bV, nI_clamp (show i < 2 ^ 31 by omega), q_O_get, hM.2.2.1, hM.2.2.2.1, hM.2.2.2.2]
          simp only [if_pos (q_inb' (show i < 30 by omega) (by decide))]
          rcases (show w = 0 ∨ w = 1 ∨ w = 2 by omega) with rfl | rfl | rfl
          · rfl
          · rfl
          · rfl
        · rw [q_O_get]
          exact ht
      · refine q_sim_bad (b := 0) (e := 0) (c := 2) hg' ?_ ?_ (by decide) rfl
        · rw [(ze_X4_touched (nI v) (nI i) x3 g).trans (zu_X4_touched_0 99999 (nI v) (nI i) x3 g), q_ckA_ok hX7 hn hi, q_bV, q_ckV_ok hv, q_bV]
          by_cases h0 : x3 < 0
          · rw [if_pos h0]
          · rw [if_neg h0, if_neg]
            intro hc
            rcases hw2 with h1 | h1
            · exact h0 h1
            · rw [fa_le] at hc h1
              rw [nI_toInt (by decide)] at h1
              have h2 : (2 : Int32).toInt = 2 := by decide
              omega
        · rw [(ze_X5_touched (nI v) (nI i) x3 g).trans (zu_X5_touched_0 99999 (nI v) (nI i) x3 g), q_isA_ok (q_t0 _ _) ((q_t16 _ _).trans hM16) hn hi, q_bI, if_neg (by decide), q_isV_ok hv, q_bI, if_neg (by decide), q_wn_bad (hi := (2 : Int32)) (m := 2) rfl hw2 (by decide), q_bI, if_pos rfl, q_may0 (q_t0 _ _) (by decide), q_bI, if_pos rfl, q_tt]
    · refine q_sim_bad (b := 0) (e := 0) (c := 2) hg' ?_ ?_ (by decide) rfl
      · rw [(ze_X4_touched x1 (nI i) x3 g).trans (zu_X4_touched_0 99999 x1 (nI i) x3 g), q_ckA_ok hX7 hn hi, q_bV, q_ckV_bad hv2, q_bVx]
      · rw [(ze_X5_touched x1 (nI i) x3 g).trans (zu_X5_touched_0 99999 x1 (nI i) x3 g), q_isA_ok (q_t0 _ _) ((q_t16 _ _).trans hM16) hn hi, q_bI, if_neg (by decide), q_isV_bad hv2, q_bI, if_pos rfl, q_may0 (q_t0 _ _) (by decide), q_bI, if_pos rfl, q_tt]
  · refine q_sim_bad (b := 0) (e := 2) (c := 1) hg' ?_ ?_ (by decide) rfl
    · rw [(ze_X4_touched x1 x2 x3 g).trans (zu_X4_touched_0 99999 x1 x2 x3 g), q_ckA_bad hX7 ha2, q_bVx]
    · rw [(ze_X5_touched x1 x2 x3 g).trans (zu_X5_touched_0 99999 x1 x2 x3 g), q_isA_bad (q_t0 _ _) ((q_t16 _ _).trans hM16) hn ha2, q_bI, if_pos rfl, q_tt]
