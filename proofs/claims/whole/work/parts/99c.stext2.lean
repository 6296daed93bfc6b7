/-! ===== pure part: text, both sides ===== -/
theorem q_lm_lx : ∀ (l : List qIt), q_lm l = q_lx l + l.length
  | [] => rfl
  | it :: r => by
    rw [q_lm, q_lx, List.length_cons, q_lm_lx r]
    omega
theorem q_s_text (x1 x2 x3 : Int32) : q_sim q_eI zX_text zF_X5_text [.inl x1, .inl x2, .inl x3] := by
  intro g hg
  have hg' := hg
  obtain ⟨P, n, tp, h⟩ := hg
  rcases q_ix x1 (n := 2) (by decide) with ⟨v, hv, rfl⟩ | hv2
  · rcases q_ix x2 (n := 4) (by decide) with ⟨kd, hk, rfl⟩ | hk2
    · have h0 := h
      obtain ⟨⟨w1, w2, w3, w4, w5⟩, ⟨k1, k2, k3, k4, k5⟩, h3, h4, ⟨b1, b2, ⟨b3, b4⟩, b5, b6⟩, h6, ⟨t1, t2, t3, t4⟩, h8, h9⟩ := h
      rcases q_ix x3 (n := tp + 1) (by omega) with ⟨m, hm, rfl⟩ | hm2
      · have ht8 : v * 4 + kd < 8 := by omega
        have e4 : nI v * (4 : Int32) + nI kd = nI (v * 4 + kd) := by rw [show (4 : Int32) = nI 4 from rfl, pk_mul, nI_add]
        have e4' : (4 : Int32) * nI v + nI kd = nI (v * 4 + kd) := by rw [show (4 : Int32) = nI 4 from rfl, pk_mul, nI_add, Nat.mul_comm]
        have hB : ∀ i, i < m → ((g 0 0).2 0 i).toNatClampNeg < 256 ∧ (g 0 0).2 0 i = nI ((g 0 0).2 0 i).toNatClampNeg ∧ (g 3 0).2 9 i = nI ((g 0 0).2 0 i).toNatClampNeg := by
          intro i hi
          obtain ⟨b, hb, e1, e2⟩ := t4 i (by omega)
          rw [e1, e2, nI_clamp (by omega)]
          exact ⟨hb, rfl, rfl⟩
        have hX := q_Xund (B := fun i => ((g 0 0).2 0 i).toNatClampNeg) (n := m) (g := z_gI g 0 0 12 0) (by omega) (fun i hi => ⟨(hB i hi).1, (hB i hi).2.1⟩)
        have hM : ∀ g1 : zSG, g1 3 0 = g 3 0 → q_okU g1 (q_rM (g 3 0) m) (nI v) (nI kd) (zF_X5_text [.inr (.inl (3, 0, 0)), .inl (nI v), .inl (nI kd), .inl (nI m)] g1) (q_txt (fun i => ((g 0 0).2 0 i).toNatClampNeg) m) := fun g1 e1 => q_Mtext e1 hv hk (by omega) (fun i hi => ⟨(hB i hi).1, (hB i hi).2.2⟩) t3 (by omega) t1
        have hgI := q_txt_gI (B := fun i => ((g 0 0).2 0 i).toNatClampNeg) (n := m)
        have hx0 : zX_text [.inr (.inl (0, 0, 0)), .inl (nI v), .inl (nI kd), .inl (nI m)] g = z_bI (zF_X1_understands [.inr (.inl (1, 0, 0)), .inr (.inl (0, 0, 1)), .inl (nI m)] (z_gI g 0 0 12 0)) (fun b g3 => if b = 0 then z_bI (zF_X1_place [.inr (.inl (1, 0, 0))] g3) (fun q g4 => some (.inl (some (.inl ((-2 : Int32) - q))), g4)) else if z_inb ((g3 1 0).1 4) 400 then z_bV (zF_X4_forgetRuns [.inr (.inl (0, 0, 0))] (zX_scr g3 (v * 4 + kd))) (fun g5 => some (.inl (some (.inl ((g3 1 0).1 5))), g5)) else none) := by
          rw [zX_text_eq, q_ckV_ok hv, q_bV, q_ckK_ok hk, q_bV, if_neg (nI_pos (by omega)), t2, if_neg (nI_nlt (by omega) (by omega)), e4, nI_clamp (by omega)]
        revert hX hM hgI
        cases q_txt (fun i => ((g 0 0).2 0 i).toNatClampNeg) m with
        | inl q =>
          rintro ⟨u', s', f', eX⟩ hM -
          obtain ⟨p', c', s2, w', o', fc', fn', eM⟩ := hM (q_O (z_gI g 0 0 12 0) 1 0 (q_x (q_r0 (z_gI g 0 0 12 0 1 0) m) q u' s' f')) rfl
          refine ⟨.inl (some (.inl ((-2 : Int32) - nI q))), _, _, _, ?_, eM, ⟨?_, rfl⟩, P, n, 0, ?_⟩
          · rw [hx0, eX, q_bI, if_pos rfl, (ze_X1_place _).trans (zu_X1_place_0 99999 _), q_bI, q_O_get, q_x3]
          · rw [q_O_get]
            rfl
          · exact ⟨⟨w1, w2, w3, w4, w5⟩, ⟨k1, k2, k3, k4, k5⟩, h3, h4, ⟨b1, b2, ⟨b3, b4⟩, b5, b6⟩, h6, ⟨by decide, rfl, rfl, fun j hj => absurd hj (by omega)⟩, h8, h9⟩
        | inr its =>
          rintro ⟨q, f', eX, hs⟩ hM ⟨l1, l2, l3, l4⟩
          obtain ⟨N, p', fc', fn', hN, eM, hs2⟩ := hM (q_O (zX_scr (q_O (z_gI g 0 0 12 0) 1 0 (q_x (q_r0 (z_gI g 0 0 12 0 1 0) m) q (q_lx its) its.length f')) (v * 4 + kd)) 0 0 (upd (upd (upd (g 0 0).1 12 0) 11 0) 10 0, (g 0 0).2)) rfl
          obtain ⟨S', T', e5, c1, c2⟩ := q_M157 (g := q_O (zX_scr (q_O (z_gI g 0 0 12 0) 1 0 (q_x (q_r0 (z_gI g 0 0 12 0 1 0) m) q (q_lx its) its.length f')) (v * 4 + kd)) 0 0 (upd (upd (upd (g 0 0).1 12 0) 11 0) 10 0, (g 0 0).2)) (y := q_m (q_rM (g 3 0) m) p' (-1) (nI (q_lm its)) (nI its.length) (0 : Int32) (0 : Int32) fc' fn') (t := v * 4 + kd) (c := q_lm its) ht8 (by omega) rfl (q_lm its) 0 N ((g 3 0).2 12) ((g 3 0).2 13) (by omega) (by omega)
          rw [show q_c (q_m (q_rM (g 3 0) m) p' (-1) (nI (q_lm its)) (nI its.length) (0 : Int32) (0 : Int32) fc' fn') ((g 3 0).2 12) ((g 3 0).2 13) = q_m (q_rM (g 3 0) m) p' (-1) (nI (q_lm its)) (nI its.length) (0 : Int32) (0 : Int32) fc' fn' from q_c_self] at e5
          rw [e4'] at eM
          refine ⟨.inl (some (.inl (nI its.length))), _, _, _, ?_, eM.trans e5, ⟨?_, rfl⟩, (P.1, va_up P.2.1 (v * 4 + kd) its, P.2.2), n, 0, ?_⟩
          · have hlx : q_lx its < 400 := by
              have := q_lm_lx its
              cases its with
              | nil => show (0 : Nat) < 400; decide
              | cons it r => rw [List.length_cons] at this; omega
            rw [hx0, eX, q_bI, if_neg (by decide), if_pos (by rw [q_O_get, q_x4]; exact q_inb' hlx (by decide)), q_fgt, q_bV]
            rfl
          · rw [q_O_get]
            rfl
          · have hwT : q_wT its := ⟨l4, l3, by omega, by omega⟩
            refine ⟨⟨w1, w2, fun t ht => ?_, w4, w5⟩, ⟨k1, k2, fun t ht => ?_, k4, k5⟩, h3, Or.inl rfl, ⟨b1, b2, ⟨b3, b4⟩, fun t ht => ?_, b6⟩, h6, ⟨by decide, rfl, rfl, fun j hj => absurd hj (by omega)⟩, h8, q_sk0 _ _ rfl⟩
            · show q_wT (va_up P.2.1 (v * 4 + kd) its t)
              by_cases e : t = v * 4 + kd
              · rw [e, va_up_self]
                exact hwT
              · rw [va_up_ne _ _ e]
                exact w3 t ht
            · show q_sx1 (va_up P.2.1 (v * 4 + kd) its t) (va_up (g 5) (v * 4 + kd) (upd (upd (fun _ => 0) 0 (nI (q_lx its))) 1 (nI its.length), fun _ => f') t)
              by_cases e : t = v * 4 + kd
              · rw [e, va_up_self, va_up_self]
                exact ⟨rfl, rfl, hs⟩
              · rw [va_up_ne _ _ e, va_up_ne _ _ e]
                exact k3 t ht
            · show upd ((g 3 0).2 14) (v * 4 + kd) (nI (q_lm its)) t = nI (q_lm (va_up P.2.1 (v * 4 + kd) its t)) ∧ upd ((g 3 0).2 15) (v * 4 + kd) (nI its.length) t = nI (va_up P.2.1 (v * 4 + kd) its t).length ∧ q_spM S' T' (500 * t) 0 0 (va_up P.2.1 (v * 4 + kd) its t)
              by_cases e : t = v * 4 + kd
              · rw [e, va_up_self, pk_us, pk_us]
                exact ⟨rfl, rfl, q_spM_sh its 0 0 (fun j h1 h2 => c1 j (by omega) (by omega)) hs2⟩
              · rw [va_up_ne _ _ e, pk_un e, pk_un e]
                obtain ⟨a1, a2, a3⟩ := b5 t ht
                refine ⟨a1, a2, q_spM_cong _ 0 0 (fun j h1 h2 => ?_) a3⟩
                have hl : q_lm (P.2.1 t) ≤ 500 := (w3 t ht).2.2.2
                have h2' : j < 0 + q_lm (P.2.1 t) := h2
                exact c2 _ (by omega)
      · refine q_sim_bad (b := 0) (e := 0) (c := 1) hg' ?_ ?_ (by decide) rfl
        · rw [zX_text_eq, q_ckV_ok hv, q_bV, q_ckK_ok hk, q_bV]
          by_cases c0 : x3 < 0
          · rw [if_pos c0]
          · rw [if_neg c0, t2, if_pos]
            rcases hm2 with c | c
            · exact absurd c c0
            · exact fa_trans (nI_lt (by omega) (by omega)) c
        · have h1 : (z_gI g 3 0 0 (0 : Int32) 3 0).1 1 = nI tp := by
            rw [q_gI, q_O_get]
            exact t3
          rw [(ze_X5_text (nI v) (nI kd) x3 g).trans (zu_X5_text_0 99999 (nI v) (nI kd) x3 g), q_wn_ok (hi := (1 : Int32)) (m := 1) rfl (by omega) (by decide), q_bI, if_neg (by decide), q_wn_ok (hi := (3 : Int32)) (m := 3) rfl (by omega) (by decide), q_bI, if_neg (by decide), h1]
          by_cases c0 : x3 < 0
          · rw [if_pos c0, q_may0 (q_t0 _ _) (by decide), q_bI, if_pos rfl, q_tt]
          · rw [if_neg c0, if_pos, q_may0 (q_t0 _ _) (by decide), q_bI, if_pos rfl, q_tt]
            rcases hm2 with c | c
            · exact absurd c c0
            · exact fa_trans (nI_lt (by omega) (by omega)) c
    · refine q_sim_bad (b := 0) (e := 0) (c := 1) hg' ?_ ?_ (by decide) rfl
      · rw [zX_text_eq, q_ckV_ok hv, q_bV, q_ckK_bad hk2, q_bVx]
      · rw [(ze_X5_text (nI v) x2 x3 g).trans (zu_X5_text_0 99999 (nI v) x2 x3 g), q_wn_ok (hi := (1 : Int32)) (m := 1) rfl (by omega) (by decide), q_bI, if_neg (by decide), q_wn_bad (hi := (3 : Int32)) (m := 3) rfl hk2 (by decide), q_bI, if_pos rfl, q_may0 (q_t0 _ _) (by decide), q_bI, if_pos rfl, q_tt]
  · refine q_sim_bad (b := 0) (e := 0) (c := 1) hg' ?_ ?_ (by decide) rfl
    · rw [zX_text_eq, q_ckV_bad hv2, q_bVx]
    · rw [(ze_X5_text x1 x2 x3 g).trans (zu_X5_text_0 99999 x1 x2 x3 g), q_wn_bad (hi := (1 : Int32)) (m := 1) rfl hv2 (by decide), q_bI, if_pos rfl, q_may0 (q_t0 _ _) (by decide), q_bI, if_pos rfl, q_tt]
