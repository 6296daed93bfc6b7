/-! ===== pure part: calls that change what is kept ===== -/
theorem q_fgt (g : zSG) : zF_X4_forgetRuns [.inr (.inl (0, 0, 0))] g = some (.inl none, q_O g 0 0 (upd (upd (g 0 0).1 11 0) 10 0, (g 0 0).2)) := by
  rw [(ze_X4_forgetRuns g).trans (zu_X4_forgetRuns_0 99999 g), q_00]
  simp only [q_gI, q_O_get, q_O_O]
theorem q_sk0 (P : qP) (n : Nat) {w : zLS} (h : w.1 10 = 0) : q_sk P n w := ⟨0, by decide, h, fun a _ hb => absurd hb (by simp)⟩
theorem q_s_begin (x1 x2 : Int32) : q_sim q_eX zF_X4_begin zF_X5_begin [.inl x1, .inl x2] := by
  intro g hg
  have hg' := hg
  obtain ⟨P, n, tp, h⟩ := hg
  rcases q_ix x1 (n := 8) (by decide) with ⟨k, hk, rfl⟩ | hb
  · obtain ⟨⟨w1, w2, w3, w4, w5⟩, ⟨k1, k2, k3, k4, k5⟩, h3, h4, ⟨b1, b2, ⟨b3, b4⟩, b5, b6⟩, h6, h7, h8, h9⟩ := h
    refine ⟨.inl (some (.inl (q_bg P k))), q_O g 0 0 (upd (upd (g 0 0).1 11 0) 10 0, va_up (g 0 0).2 1 (upd (q_bg P) k x2)), q_bg P k, q_O (q_O g 0 0 (upd (upd (g 0 0).1 11 0) 10 0, va_up (g 0 0).2 1 (upd (q_bg P) k x2))) 3 0 (upd (g 3 0).1 0 0, va_up (g 3 0).2 17 (upd (q_bg P) k x2)), ?_, ?_, ⟨?_, rfl⟩, (P.1, P.2.1, P.2.2.1, upd P.2.2.2 k x2), n, tp, ?_⟩
    · rw [(ze_X4_begin (nI k) x2 g).trans (zu_X4_begin_0 99999 (nI k) x2 g), q_ckY_ok hk, q_bV, if_pos (q_inb' hk (by decide)), if_pos (q_inb' hk (by decide)), nI_clamp (by omega), k4, q_fgt, q_bV]
      simp only [q_gA, q_O_get, q_O_O]
    · rw [(ze_X5_begin (nI k) x2 _).trans (zu_X5_begin_0 99999 (nI k) x2 _), q_wn_ok (hi := (7 : Int32)) (m := 7) rfl (by omega) (by decide), q_bI, q_may1 (q_t0 _ _), q_bI, if_neg (by decide), if_pos (q_inb' hk (by decide)), if_pos (q_inb' hk (by decide)), nI_clamp (by omega)]
      simp only [q_gI, q_gA, q_O_get, q_O_O]
      rw [q_O_c _ _ _ (show (3 : Nat) ≠ 0 by decide), b4]
    · rw [q_O_get]
      first | exact pk_us | rfl
    · refine ⟨⟨w1, w2, w3, w4, q_z_up w5 hk⟩, ⟨k1, k2, k3, rfl, k5⟩, h3, Or.inl rfl, ⟨b1, b2, ⟨b3, rfl⟩, b5, b6⟩, h6, h7, h8, q_sk0 _ _ rfl⟩
  · refine q_sim_bad (b := 0) (e := 1) (c := 1) hg' ?_ ?_ (by decide) rfl
    · rw [(ze_X4_begin x1 x2 g).trans (zu_X4_begin_0 99999 x1 x2 g), q_ckY_bad hb, q_bVx]
    · rw [(ze_X5_begin x1 x2 g).trans (zu_X5_begin_0 99999 x1 x2 g), q_wn_bad (hi := (7 : Int32)) (m := 7) rfl hb (by decide), q_bI, q_may0 (q_t0 _ _) (by decide), q_bI, if_pos rfl, q_tt]
theorem q_s_keep (x1 x2 : Int32) : q_sim q_eX zF_X4_keep zF_X5_keep [.inl x1, .inl x2] := by
  intro g hg
  have hg' := hg
  obtain ⟨P, n, tp, h⟩ := hg
  rcases q_ix x1 (n := 16) (by decide) with ⟨k, hk, rfl⟩ | hb
  · obtain ⟨⟨w1, w2, w3, w4, w5⟩, ⟨k1, k2, k3, k4, k5⟩, h3, h4, ⟨b1, b2, ⟨b3, b4⟩, b5, b6⟩, h6, h7, h8, h9⟩ := h
    refine ⟨.inl (some (.inl (q_kp P k))), q_O g 0 0 (upd (upd (g 0 0).1 11 0) 10 0, va_up (g 0 0).2 2 (upd (q_kp P) k x2)), q_kp P k, q_O (q_O g 0 0 (upd (upd (g 0 0).1 11 0) 10 0, va_up (g 0 0).2 2 (upd (q_kp P) k x2))) 3 0 (upd (g 3 0).1 0 0, va_up (g 3 0).2 18 (upd (q_kp P) k x2)), ?_, ?_, ⟨?_, rfl⟩, (P.1, P.2.1, upd P.2.2.1 k x2, P.2.2.2), n, tp, ?_⟩
    · rw [(ze_X4_keep (nI k) x2 g).trans (zu_X4_keep_0 99999 (nI k) x2 g), if_neg (nI_pos (by omega)), if_pos (show nI k < (16 : Int32) from nI_lt (b := 16) hk (by decide)), if_pos (q_inb' hk (by decide)), if_pos (q_inb' hk (by decide)), nI_clamp (by omega), k5, q_fgt, q_bV]
      simp only [q_gA, q_O_get, q_O_O]
    · rw [(ze_X5_keep (nI k) x2 _).trans (zu_X5_keep_0 99999 (nI k) x2 _), q_wn_ok (hi := (15 : Int32)) (m := 15) rfl (by omega) (by decide), q_bI, q_may1 (q_t0 _ _), q_bI, if_neg (by decide), if_pos (q_inb' hk (by decide)), if_pos (q_inb' hk (by decide)), nI_clamp (by omega)]
      simp only [q_gI, q_gA, q_O_get, q_O_O]
      rw [q_O_c _ _ _ (show (3 : Nat) ≠ 0 by decide), b3]
    · rw [q_O_get]
      first | exact pk_us | rfl
    · refine ⟨⟨w1, w2, w3, q_z_up w4 hk, w5⟩, ⟨k1, k2, k3, k4, rfl⟩, h3, Or.inl rfl, ⟨b1, b2, ⟨rfl, b4⟩, b5, b6⟩, h6, h7, h8, q_sk0 _ _ rfl⟩
  · refine q_sim_bad (b := 0) (e := 1) (c := 1) hg' ?_ ?_ (by decide) rfl
    · rw [(ze_X4_keep x1 x2 g).trans (zu_X4_keep_0 99999 x1 x2 g)]
      by_cases h0 : x1 < 0
      · rw [if_pos h0]
      · rw [if_neg h0, if_neg (show ¬ x1 < (16 : Int32) from fun hc => hb.elim h0 (fun h1 => (fa_of_lt hc).2.1 h1))]
    · rw [(ze_X5_keep x1 x2 g).trans (zu_X5_keep_0 99999 x1 x2 g), q_wn_bad (hi := (15 : Int32)) (m := 15) rfl hb (by decide), q_bI, q_may0 (q_t0 _ _) (by decide), q_bI, if_pos rfl, q_tt]
/-! ask -/
def q_Pa (P : qP) (n kd : Nat) (a b : Int32) (tk : Nat) : qP := (va_up P.1 n (kd, a, b, tk, none, 0), P.2)
theorem q_Pa_lt {P : qP} {n kd tk i : Nat} {a b : Int32} (h : i < n) : (q_Pa P n kd a b tk).1 i = P.1 i := va_up_ne _ _ (by omega)
theorem q_Pa_n {P : qP} {n kd tk : Nat} {a b : Int32} : (q_Pa P n kd a b tk).1 n = (kd, a, b, tk, none, 0) := va_up_self _ _ _
theorem q_xwrite0 {P : qP} {n kd tk : Nat} {a b : Int32} {g : zSG} (hw : q_wP P n) (hn : n < 30) (ht : tk ≤ 100000) (hb : q_bk P n (g 2 0)) (ho : ∀ j, j < n → (g 2 0).2 6 j = nI (q_lineF (q_tk P) n j)) : ∃ R, zF_X0_write [.inr (.inl (2, 0, 0)), .inl (nI kd), .inl a, .inl b, .inl (nI tk)] g = some (.inl (some (.inl (nI n))), q_O g 2 0 (upd (g 2 0).1 7 (nI (n + 1)), va_up (va_up (va_up (va_up (va_up (va_up (g 2 0).2 0 (upd ((g 2 0).2 0) n (nI kd))) 1 (upd ((g 2 0).2 1) n a)) 2 (upd ((g 2 0).2 2) n b)) 3 (upd ((g 2 0).2 3) n (nI tk))) 4 (upd ((g 2 0).2 4) n (-1))) 6 R)) ∧ ∀ j, j < n + 1 → R j = nI (q_lineF (q_tk (q_Pa P n kd a b tk)) (n + 1) j) := by
  have hc : q_lineF (q_tk (q_Pa P n kd a b tk)) n = q_lineF (q_tk P) n := q_line_cong n (fun i hi => by unfold q_tk; rw [q_Pa_lt hi])
  obtain ⟨R, e1, e2⟩ := q_xwl (g := g) (w := ((g 2 0).1, va_up (va_up (va_up (va_up (va_up (g 2 0).2 0 (upd ((g 2 0).2 0) n (nI kd))) 1 (upd ((g 2 0).2 1) n a)) 2 (upd ((g 2 0).2 2) n b)) 3 (upd ((g 2 0).2 3) n (nI tk))) 4 (upd ((g 2 0).2 4) n (-1)))) (tk := q_tk (q_Pa P n kd a b tk)) (n := n) hn (fun x hx => by
      show upd ((g 2 0).2 3) n (nI tk) x = _
      by_cases e : x = n
      · subst e
        rw [pk_us]
        unfold q_tk
        rw [q_Pa_n]
      · rw [pk_un e, (hb.2.1 x (by omega)).2.2.2.1]
        unfold q_tk
        rw [q_Pa_lt (by omega)]) (fun x hx => by
      by_cases e : x = n
      · subst e
        unfold q_tk
        rw [q_Pa_n]
        exact ht
      · unfold q_tk
        rw [q_Pa_lt (by omega)]
        exact (hw.2.1 x (by omega)).2.1) hb.1 n 99999 (q_lineF (q_tk P) n) ((va_up (va_up (va_up (va_up (va_up (g 2 0).2 0 (upd ((g 2 0).2 0) n (nI kd))) 1 (upd ((g 2 0).2 1) n a)) 2 (upd ((g 2 0).2 2) n b)) 3 (upd ((g 2 0).2 3) n (nI tk))) 4 (upd ((g 2 0).2 4) n (-1))) 6) (Nat.le_refl _) (by omega) (fun j hj hj2 => ⟨ho j (by omega), by have := q_line_lt (q_tk P) n j (by omega); omega⟩)
  refine ⟨R, ?_, fun j hj => ?_⟩
  · rw [(ze_X0_write (nI kd) a b (nI tk) g).trans (zu_X0_write_0 99999 (nI kd) a b (nI tk) g), hb.1, if_pos (show nI n < (30 : Int32) from nI_lt (b := 30) hn (by decide)), if_pos (q_inb' hn (by decide)), if_pos (q_inb' hn (by decide)), if_pos (q_inb' hn (by decide)), if_pos (q_inb' hn (by decide)), if_pos (q_inb' hn (by decide)), nI_clamp (by omega)]
    simp only [q_gA, q_O_get, q_O_O]
    have et : q_tk (q_Pa P n kd a b tk) n = tk := by
      unfold q_tk
      rw [q_Pa_n]
    rw [et] at e1
    dsimp only at e1
    rw [q_up_self] at e1
    exact e1
  · rw [e2 j (by omega), q_lineF, hc]
theorem q_s_ask (x1 x2 x3 x4 : Int32) : q_sim q_eI zF_X4_ask zF_X5_ask [.inl x1, .inl x2, .inl x3, .inl x4] := by
  intro g hg
  have hg' := hg
  obtain ⟨P, n, tp, h⟩ := hg
  rcases q_ix x1 (n := 4) (by decide) with ⟨kd, hkd, rfl⟩ | hb
  · rcases q_ix x4 (n := 100001) (by decide) with ⟨tk, htk, rfl⟩ | hb4
    · have h0 := h
      obtain ⟨⟨w1, w2, w3, w4, w5⟩, ⟨⟨k0, k1, k1z⟩, k2, k3, k4, k5⟩, h3, h4, ⟨b1, b2, ⟨b3, b4⟩, b5, b6⟩, h6, h7, h8, h9⟩ := h
      by_cases hn : n < 30
      · obtain ⟨R, e1, e2⟩ := q_xwrite0 (P := P) (n := n) (kd := kd) (tk := tk) (a := x2) (b := x3) (g := q_O g 0 0 (upd (upd (g 0 0).1 11 0) 10 0, (g 0 0).2)) h0.1 hn (by omega) ⟨k0, k1, k1z⟩ k2
        rw [q_O_c _ _ _ (show (2 : Nat) ≠ 0 by decide)] at e1
        refine ⟨.inl (some (.inl (nI n))), q_O (q_O g 0 0 (upd (upd (g 0 0).1 11 0) 10 0, (g 0 0).2)) 2 0 (upd (g 2 0).1 7 (nI (n + 1)), va_up (va_up (va_up (va_up (va_up (va_up (g 2 0).2 0 (upd ((g 2 0).2 0) n (nI kd))) 1 (upd ((g 2 0).2 1) n x2)) 2 (upd ((g 2 0).2 2) n x3)) 3 (upd ((g 2 0).2 3) n (nI tk))) 4 (upd ((g 2 0).2 4) n (-1))) 6 R), nI n, q_O (q_O (q_O g 0 0 (upd (upd (g 0 0).1 11 0) 10 0, (g 0 0).2)) 2 0 (upd (g 2 0).1 7 (nI (n + 1)), va_up (va_up (va_up (va_up (va_up (va_up (g 2 0).2 0 (upd ((g 2 0).2 0) n (nI kd))) 1 (upd ((g 2 0).2 1) n x2)) 2 (upd ((g 2 0).2 2) n x3)) 3 (upd ((g 2 0).2 3) n (nI tk))) 4 (upd ((g 2 0).2 4) n (-1))) 6 R)) 3 0 (upd (upd (g 3 0).1 0 0) 16 (nI (n + 1)), va_up (va_up (va_up (va_up (va_up (g 3 0).2 19 (upd ((g 3 0).2 19) n (nI kd))) 20 (upd ((g 3 0).2 20) n x2)) 21 (upd ((g 3 0).2 21) n x3)) 22 (upd ((g 3 0).2 22) n (nI tk))) 23 (upd ((g 3 0).2 23) n (-1))), ?_, ?_, ⟨?_, rfl⟩, q_Pa P n kd x2 x3 tk, n + 1, tp, ?_⟩
        · rw [(ze_X4_ask (nI kd) x2 x3 (nI tk) g).trans (zu_X4_ask_0 99999 (nI kd) x2 x3 (nI tk) g), q_ckK_ok hkd, q_bV, if_neg (nI_pos (by omega)), if_pos (show nI tk ≤ (100000 : Int32) from nI_le (b := 100000) (by omega) (by decide)), k0, if_pos (show nI n < (30 : Int32) from nI_lt (b := 30) hn (by decide)), q_fgt, q_bV, e1, q_bI]
        · rw [(ze_X5_ask (nI kd) x2 x3 (nI tk) _).trans (zu_X5_ask_0 99999 (nI kd) x2 x3 (nI tk) _), q_wn_ok (hi := (3 : Int32)) (m := 3) rfl (by omega) (by decide), q_bI, if_neg (by decide), q_wn_ok (hi := (100000 : Int32)) (m := 100000) rfl (by omega) (by decide), q_bI, if_neg (by decide), q_may1 (q_t0 _ _), q_bI, if_neg (by decide), zu_X5_ask_40, q_t16, q_O_c _ _ _ (show (3 : Nat) ≠ 2 by decide), q_O_c _ _ _ (show (3 : Nat) ≠ 0 by decide), b1, if_neg (show ¬ nI n = (30 : Int32) from fun hc => absurd ((nI_eq (b := 30) (by omega) (by decide)).mp hc) (by omega)), if_pos (q_inb' hn (by decide)), if_pos (q_inb' hn (by decide)), if_pos (q_inb' hn (by decide)), if_pos (q_inb' hn (by decide)), if_pos (q_inb' hn (by decide)), nI_clamp (by omega), nI_1, nI_pred]
          simp only [q_gI, q_gA, q_O_get, q_O_O]
          rfl
        · rw [q_O_get]
          rfl
        · have hlt : ∀ i, i < n → (q_Pa P n kd x2 x3 tk).1 i = P.1 i := fun i hi => q_Pa_lt hi
          refine ⟨⟨by omega, fun i hi => ?_, w3, w4, w5⟩, ⟨⟨rfl, fun i hi => ?_, fun j hj1 hj2 => k1z j (by omega) hj2⟩, e2, k3, k4, k5⟩, h3, Or.inl rfl, ⟨rfl, fun i hi => ?_, ⟨b3, b4⟩, b5, fun j hj1 hj2 => b6 j (by omega) hj2⟩, h6, h7, h8, q_sk0 _ _ rfl⟩
          · by_cases e : i = n
            · subst e
              unfold q_kd q_tk q_fd q_by
              rw [q_Pa_n]
              exact ⟨hkd, show tk ≤ 100000 by omega, show 0 < 8 by decide, fun c hc => nomatch hc⟩
            · have := w2 i (by omega)
              unfold q_kd q_tk q_fd q_by at this ⊢
              rw [hlt i (by omega)]
              exact ⟨this.1, this.2.1, this.2.2.1, fun c hc => by have := this.2.2.2 c hc; omega⟩
          · show upd ((g 2 0).2 0) n (nI kd) i = _ ∧ upd ((g 2 0).2 1) n x2 i = _ ∧ upd ((g 2 0).2 2) n x3 i = _ ∧ upd ((g 2 0).2 3) n (nI tk) i = _ ∧ upd ((g 2 0).2 4) n (-1) i = _ ∧ (g 2 0).2 5 i = _
            by_cases e : i = n
            · subst e
              unfold q_kd q_tk q_fd q_by q_fa q_fb
              rw [q_Pa_n]
              exact ⟨pk_us, pk_us, pk_us, pk_us, pk_us, k1z i (Nat.le_refl _) hn⟩
            · have := k1 i (by omega)
              unfold q_kd q_tk q_fd q_by q_fa q_fb at this ⊢
              rw [hlt i (by omega), pk_un e, pk_un e, pk_un e, pk_un e, pk_un e]
              exact this
          · show upd ((g 3 0).2 19) n (nI kd) i = _ ∧ upd ((g 3 0).2 20) n x2 i = _ ∧ upd ((g 3 0).2 21) n x3 i = _ ∧ upd ((g 3 0).2 22) n (nI tk) i = _ ∧ upd ((g 3 0).2 23) n (-1) i = _ ∧ (g 3 0).2 24 i = _
            by_cases e : i = n
            · subst e
              unfold q_kd q_tk q_fd q_by q_fa q_fb
              rw [q_Pa_n]
              exact ⟨pk_us, pk_us, pk_us, pk_us, pk_us, b6 i (Nat.le_refl _) hn⟩
            · have := b2 i (by omega)
              unfold q_kd q_tk q_fd q_by q_fa q_fb at this ⊢
              rw [hlt i (by omega), pk_un e, pk_un e, pk_un e, pk_un e, pk_un e]
              exact this
      · have en : n = 30 := by omega
        subst en
        refine ⟨.inl (some (.inl (-1))), g, -1, z_gI g 3 0 0 0, ?_, ?_, ⟨q_t0 _ _, rfl⟩, P, 30, tp, q_INV_t h0⟩
        · rw [(ze_X4_ask (nI kd) x2 x3 (nI tk) g).trans (zu_X4_ask_0 99999 (nI kd) x2 x3 (nI tk) g), q_ckK_ok hkd, q_bV, if_neg (nI_pos (by omega)), if_pos (show nI tk ≤ (100000 : Int32) from nI_le (b := 100000) (by omega) (by decide)), k0, if_neg (by decide)]
        · rw [(ze_X5_ask (nI kd) x2 x3 (nI tk) _).trans (zu_X5_ask_0 99999 (nI kd) x2 x3 (nI tk) _), q_wn_ok (hi := (3 : Int32)) (m := 3) rfl (by omega) (by decide), q_bI, if_neg (by decide), q_wn_ok (hi := (100000 : Int32)) (m := 100000) rfl (by omega) (by decide), q_bI, if_neg (by decide), q_may1 (q_t0 _ _), q_bI, if_neg (by decide), zu_X5_ask_40, q_t16, b1, if_pos (show nI 30 = (30 : Int32) from rfl)]
    · refine q_sim_bad (b := 0) (e := 0) (c := 1) hg' ?_ ?_ (by decide) rfl
      · rw [(ze_X4_ask (nI kd) x2 x3 x4 g).trans (zu_X4_ask_0 99999 (nI kd) x2 x3 x4 g), q_ckK_ok hkd, q_bV]
        by_cases h0 : x4 < 0
        · rw [if_pos h0]
        · rw [if_neg h0, if_neg]
          intro hc
          rcases hb4 with h1 | h1
          · exact h0 h1
          · rw [fa_le] at hc h1
            rw [nI_toInt (by decide)] at h1
            have h2 : (100000 : Int32).toInt = 100000 := by decide
            omega
      · rw [(ze_X5_ask (nI kd) x2 x3 x4 _).trans (zu_X5_ask_0 99999 (nI kd) x2 x3 x4 _), q_wn_ok (hi := (3 : Int32)) (m := 3) rfl (by omega) (by decide), q_bI, if_neg (by decide), q_wn_bad (hi := (100000 : Int32)) (m := 100000) rfl hb4 (by decide), q_bI, if_pos rfl, q_may0 (q_t0 _ _) (by decide), q_bI, if_pos rfl, q_tt]
  · refine q_sim_bad (b := 0) (e := 0) (c := 1) hg' ?_ ?_ (by decide) rfl
    · rw [(ze_X4_ask x1 x2 x3 x4 g).trans (zu_X4_ask_0 99999 x1 x2 x3 x4 g), q_ckK_bad hb, q_bVx]
    · rw [(ze_X5_ask x1 x2 x3 x4 _).trans (zu_X5_ask_0 99999 x1 x2 x3 x4 _), q_wn_bad (hi := (3 : Int32)) (m := 3) rfl hb (by decide), q_bI, if_pos rfl, q_may0 (q_t0 _ _) (by decide), q_bI, if_pos rfl, q_tt]
