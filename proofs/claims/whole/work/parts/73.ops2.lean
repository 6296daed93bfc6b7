/-! ===== pure part: caused, noise, count, never ===== -/
def q_Pc (P : qP) (i : Nat) (o : Option Nat) (f : Nat) : qP := (va_up P.1 i ((P.1 i).1, (P.1 i).2.1, (P.1 i).2.2.1, (P.1 i).2.2.2.1, o, f), P.2)
theorem q_Pc_i (P : qP) (i : Nat) (o : Option Nat) (f : Nat) : (q_Pc P i o f).1 i = ((P.1 i).1, (P.1 i).2.1, (P.1 i).2.2.1, (P.1 i).2.2.2.1, o, f) := va_up_self _ _ _
theorem q_Pc_ne (P : qP) {i j : Nat} (o : Option Nat) (f : Nat) (h : j ≠ i) : (q_Pc P i o f).1 j = P.1 j := va_up_ne _ _ h
theorem q_Pc_tk (P : qP) (i : Nat) (o : Option Nat) (f : Nat) : q_tk (q_Pc P i o f) = q_tk P := by
  funext j
  unfold q_tk
  by_cases e : j = i
  · subst e
    rw [q_Pc_i]
  · rw [q_Pc_ne _ _ _ e]
theorem q_INV_c {P : qP} {n tp i f : Nat} {g : zSG} {o : Option Nat} (h : q_INV P n tp g) (hi : i < n) (hf : f < 8) (ho : ∀ c, o = some c → c < n) : q_INV (q_Pc P i o f) n tp (q_O (q_O (q_O g 2 0 ((g 2 0).1, va_up (va_up (g 2 0).2 4 (upd ((g 2 0).2 4) i (q_cI o))) 5 (upd ((g 2 0).2 5) i (nI f)))) 0 0 (upd (upd (g 0 0).1 11 0) 10 0, (g 0 0).2)) 3 0 (upd (g 3 0).1 0 0, va_up (va_up (g 3 0).2 23 (upd ((g 3 0).2 23) i (q_cI o))) 24 (upd ((g 3 0).2 24) i (nI f)))) := by
  obtain ⟨⟨w1, w2, w3, w4, w5⟩, ⟨⟨k0, k1, k1z⟩, k2, k3, k4, k5⟩, h3, h4, ⟨b1, b2, ⟨b3, b4⟩, b5, b6⟩, h6, h7, h8, h9⟩ := h
  refine ⟨⟨w1, fun j hj => ?_, w3, w4, w5⟩, ⟨⟨k0, fun j hj => ?_, fun j hj1 hj2 => ?_⟩, ?_, k3, k4, k5⟩, h3, Or.inl rfl, ⟨b1, fun j hj => ?_, ⟨b3, b4⟩, b5, fun j hj1 hj2 => ?_⟩, h6, h7, h8, q_sk0 _ _ rfl⟩
  · have := w2 j hj
    unfold q_kd q_tk q_fd q_by at this ⊢
    by_cases e : j = i
    · subst e
      rw [q_Pc_i]
      exact ⟨this.1, this.2.1, hf, ho⟩
    · rw [q_Pc_ne _ _ _ e]
      exact this
  · show (g 2 0).2 0 j = _ ∧ (g 2 0).2 1 j = _ ∧ (g 2 0).2 2 j = _ ∧ (g 2 0).2 3 j = _ ∧ upd ((g 2 0).2 4) i (q_cI o) j = _ ∧ upd ((g 2 0).2 5) i (nI f) j = _
    have := k1 j hj
    unfold q_kd q_tk q_fd q_by q_fa q_fb at this ⊢
    by_cases e : j = i
    · subst e
      rw [q_Pc_i, pk_us, pk_us]
      exact ⟨this.1, this.2.1, this.2.2.1, this.2.2.2.1, rfl, rfl⟩
    · rw [q_Pc_ne _ _ _ e, pk_un e, pk_un e]
      exact this
  · show upd ((g 2 0).2 5) i (nI f) j = 0
    rw [pk_un (by omega)]
    exact k1z j hj1 hj2
  · rw [q_Pc_tk]
    exact k2
  · show (g 3 0).2 19 j = _ ∧ (g 3 0).2 20 j = _ ∧ (g 3 0).2 21 j = _ ∧ (g 3 0).2 22 j = _ ∧ upd ((g 3 0).2 23) i (q_cI o) j = _ ∧ upd ((g 3 0).2 24) i (nI f) j = _
    have := b2 j hj
    unfold q_kd q_tk q_fd q_by q_fa q_fb at this ⊢
    by_cases e : j = i
    · subst e
      rw [q_Pc_i, pk_us, pk_us]
      exact ⟨this.1, this.2.1, this.2.2.1, this.2.2.2.1, rfl, rfl⟩
    · rw [q_Pc_ne _ _ _ e, pk_un e, pk_un e]
      exact this
  · show upd ((g 3 0).2 24) i (nI f) j = 0
    rw [pk_un (by omega)]
    exact b6 j hj1 hj2
theorem q_s_caused (x1 x2 x3 : Int32) : q_sim q_eNI zF_X4_caused zF_X5_caused [.inl x1, .inl x2, .inl x3] := by
  intro g hg
  have hg' := hg
  obtain ⟨P, n, tp, h⟩ := hg
  have hn := h.1.1
  have hX7 := h.2.1.1.1
  have hM16 := h.2.2.2.2.1.1
  rcases q_ix x1 (n := n) (by omega) with ⟨i, hi, rfl⟩ | ha
  · by_cases hm : x2 = -1
    · subst hm
      have c1 : (-1 : Int32) < nI i := by
        rw [fa_lt, nI_toInt (by omega)]
        have : (-1 : Int32).toInt = -1 := by decide
        omega
      have c2 : ¬ nI i ≤ (-1 : Int32) := (fa_of_lt c1).2.1
      rcases q_ix x3 (n := 8) (by decide) with ⟨f, hf, rfl⟩ | hb3
      · refine ⟨.inl (some (.inl 1)), q_O (q_O g 2 0 ((g 2 0).1, va_up (va_up (g 2 0).2 4 (upd ((g 2 0).2 4) i (q_cI none))) 5 (upd ((g 2 0).2 5) i (nI f)))) 0 0 (upd (upd (g 0 0).1 11 0) 10 0, (g 0 0).2), 1, _, ?_, ?_, ⟨?_, rfl⟩, _, n, tp, q_INV_c (o := none) h hi hf (fun c hc => nomatch hc)⟩
        · rw [(ze_X4_caused (nI i) (-1) (nI f) g).trans (zu_X4_caused_0 99999 (nI i) (-1) (nI f) g), q_ckA_ok hX7 hn hi, q_bV, if_pos rfl, if_pos c1, q_ckF_ok hf, q_bV, if_pos (q_inb' (show i < 30 by omega) (by decide)), if_pos (q_inb' (show i < 30 by omega) (by decide)), nI_clamp (by omega), q_fgt, q_bV]
          simp only [q_gA, q_O_get, q_O_O]
          rfl
        · rw [(ze_X5_caused (nI i) (-1) (nI f) _).trans (zu_X5_caused_0 99999 (nI i) (-1) (nI f) _), q_isA_ok (q_t0 _ _) (by rw [q_t16]; exact hM16) hn hi, q_bI, if_neg (by decide), if_pos rfl, if_neg c2, q_wn_ok (hi := (7 : Int32)) (m := 7) rfl (by omega) (by decide), q_bI, if_neg (by decide), q_may1 (q_t0 _ _), q_bI, if_neg (by decide), zu_X5_caused_56, if_pos (q_inb' (show i < 30 by omega) (by decide)), if_pos (q_inb' (show i < 30 by omega) (by decide)), nI_clamp (by omega)]
          simp only [q_gI, q_gA, q_O_get, q_O_O]
          rfl
        · rw [q_O_get]
          first | exact pk_us | rfl
      · refine q_sim_bad (b := 0) (e := 0) (c := 2) hg' ?_ ?_ (by decide) rfl
        · rw [(ze_X4_caused (nI i) (-1) x3 g).trans (zu_X4_caused_0 99999 (nI i) (-1) x3 g), q_ckA_ok hX7 hn hi, q_bV, if_pos rfl, if_pos c1, q_ckF_bad hb3, q_bVx]
        · rw [(ze_X5_caused (nI i) (-1) x3 _).trans (zu_X5_caused_0 99999 (nI i) (-1) x3 _), q_isA_ok (q_t0 _ _) ((q_t16 _ _).trans hM16) hn hi, q_bI, if_neg (by decide), if_pos rfl, if_neg c2, q_wn_bad (hi := (7 : Int32)) (m := 7) rfl hb3 (by decide), q_bI, if_pos rfl, q_may0 (q_t0 _ _) (by decide), q_bI, if_pos rfl, q_tt]
    · rcases q_ix x2 (n := n) (by omega) with ⟨c, hc, rfl⟩ | hb2
      · by_cases hci : c < i
        · have c1 : nI c < nI i := nI_lt hci (by omega)
          have c2 : ¬ nI i ≤ nI c := (fa_of_lt c1).2.1
          rcases q_ix x3 (n := 8) (by decide) with ⟨f, hf, rfl⟩ | hb3
          · refine ⟨.inl (some (.inl 1)), q_O (q_O g 2 0 ((g 2 0).1, va_up (va_up (g 2 0).2 4 (upd ((g 2 0).2 4) i (q_cI (some c)))) 5 (upd ((g 2 0).2 5) i (nI f)))) 0 0 (upd (upd (g 0 0).1 11 0) 10 0, (g 0 0).2), 1, _, ?_, ?_, ⟨?_, rfl⟩, _, n, tp, q_INV_c (o := some c) h hi hf (fun c' hc' => by cases hc'; exact hc)⟩
            · rw [(ze_X4_caused (nI i) (nI c) (nI f) g).trans (zu_X4_caused_0 99999 (nI i) (nI c) (nI f) g), q_ckA_ok hX7 hn hi, q_bV, if_neg hm, q_ckA_ok hX7 hn hc, q_bV, if_pos c1, q_ckF_ok hf, q_bV, if_pos (q_inb' (show i < 30 by omega) (by decide)), if_pos (q_inb' (show i < 30 by omega) (by decide)), nI_clamp (by omega), q_fgt, q_bV]
              simp only [q_gA, q_O_get, q_O_O]
              rfl
            · rw [(ze_X5_caused (nI i) (nI c) (nI f) _).trans (zu_X5_caused_0 99999 (nI i) (nI c) (nI f) _), q_isA_ok (q_t0 _ _) (by rw [q_t16]; exact hM16) hn hi, q_bI, if_neg (by decide), if_neg hm, q_isA_ok (q_t0 _ _) (by rw [q_t16]; exact hM16) hn hc, q_bI, if_neg (by decide), if_neg c2, q_wn_ok (hi := (7 : Int32)) (m := 7) rfl (by omega) (by decide), q_bI, if_neg (by decide), q_may1 (q_t0 _ _), q_bI, if_neg (by decide), zu_X5_caused_56, if_pos (q_inb' (show i < 30 by omega) (by decide)), if_pos (q_inb' (show i < 30 by omega) (by decide)), nI_clamp (by omega)]
              simp only [q_gI, q_gA, q_O_get, q_O_O]
              rfl
            · rw [q_O_get]
              first | exact pk_us | rfl
          · refine q_sim_bad (b := 0) (e := 0) (c := 2) hg' ?_ ?_ (by decide) rfl
            · rw [(ze_X4_caused (nI i) (nI c) x3 g).trans (zu_X4_caused_0 99999 (nI i) (nI c) x3 g), q_ckA_ok hX7 hn hi, q_bV, if_neg hm, q_ckA_ok hX7 hn hc, q_bV, if_pos c1, q_ckF_bad hb3, q_bVx]
            · rw [(ze_X5_caused (nI i) (nI c) x3 _).trans (zu_X5_caused_0 99999 (nI i) (nI c) x3 _), q_isA_ok (q_t0 _ _) ((q_t16 _ _).trans hM16) hn hi, q_bI, if_neg (by decide), if_neg hm, q_isA_ok (q_t0 _ _) ((q_t16 _ _).trans hM16) hn hc, q_bI, if_neg (by decide), if_neg c2, q_wn_bad (hi := (7 : Int32)) (m := 7) rfl hb3 (by decide), q_bI, if_pos rfl, q_may0 (q_t0 _ _) (by decide), q_bI, if_pos rfl, q_tt]
        · have c1 : ¬ nI c < nI i := nI_nlt (by omega) (by omega)
          have c2 : nI i ≤ nI c := nI_le (by omega) (by omega)
          refine q_sim_bad (b := 0) (e := 0) (c := 2) hg' ?_ ?_ (by decide) rfl
          · rw [(ze_X4_caused (nI i) (nI c) x3 g).trans (zu_X4_caused_0 99999 (nI i) (nI c) x3 g), q_ckA_ok hX7 hn hi, q_bV, if_neg hm, q_ckA_ok hX7 hn hc, q_bV, if_neg c1]
          · rw [(ze_X5_caused (nI i) (nI c) x3 _).trans (zu_X5_caused_0 99999 (nI i) (nI c) x3 _), q_isA_ok (q_t0 _ _) ((q_t16 _ _).trans hM16) hn hi, q_bI, if_neg (by decide), if_neg hm, q_isA_ok (q_t0 _ _) ((q_t16 _ _).trans hM16) hn hc, q_bI, if_neg (by decide), if_pos c2, q_may0 (q_t0 _ _) (by decide), q_bI, if_pos rfl, q_tt]
      · refine q_sim_bad (b := 0) (e := 2) (c := 1) hg' ?_ ?_ (by decide) rfl
        · rw [(ze_X4_caused (nI i) x2 x3 g).trans (zu_X4_caused_0 99999 (nI i) x2 x3 g), q_ckA_ok hX7 hn hi, q_bV, if_neg hm, q_ckA_bad hX7 hb2, q_bVx]
        · rw [(ze_X5_caused (nI i) x2 x3 _).trans (zu_X5_caused_0 99999 (nI i) x2 x3 _), q_isA_ok (q_t0 _ _) ((q_t16 _ _).trans hM16) hn hi, q_bI, if_neg (by decide), if_neg hm, q_isA_bad (q_t0 _ _) ((q_t16 _ _).trans hM16) hn hb2, q_bI, if_pos rfl, q_tt]
  · refine q_sim_bad (b := 0) (e := 2) (c := 1) hg' ?_ ?_ (by decide) rfl
    · rw [(ze_X4_caused x1 x2 x3 g).trans (zu_X4_caused_0 99999 x1 x2 x3 g), q_ckA_bad hX7 ha, q_bVx]
    · rw [(ze_X5_caused x1 x2 x3 _).trans (zu_X5_caused_0 99999 x1 x2 x3 _), q_isA_bad (q_t0 _ _) ((q_t16 _ _).trans hM16) hn ha, q_bI, if_pos rfl, q_tt]
theorem q_and1 (x : Int32) : x &&& 1 = 0 ∨ x &&& 1 = 1 := by
  obtain ⟨j, hj, e⟩ := pk_andE x 1 (m := 1) (by decide)
  rcases (show j = 0 ∨ j = 1 by omega) with rfl | rfl
  · exact Or.inl e
  · exact Or.inr e
theorem q_s_noise (x1 x2 x3 : Int32) : q_sim q_eI zF_X4_noise zF_X5_noise [.inl x1, .inl x2, .inl x3] := by
  intro g hg
  have hg' := hg
  obtain ⟨P, n, tp, h⟩ := hg
  rcases q_ix x1 (n := 4) (by decide) with ⟨k, hk, rfl⟩ | ha
  · rcases q_ix x2 (n := 8) (by decide) with ⟨f, hf, rfl⟩ | hb
    · obtain ⟨h1, h2, h3, h4, h5, h6, h7, h8, h9⟩ := h
      have e8 : nI k * (8 : Int32) + nI f = nI (k * 8 + f) := by rw [show (8 : Int32) = nI 8 from rfl, pk_mul, nI_add]
      have e8' : (8 : Int32) * nI k + nI f = nI (k * 8 + f) := by rw [show (8 : Int32) = nI 8 from rfl, pk_mul, nI_add, Nat.mul_comm]
      obtain ⟨q1, q2⟩ := h8 (k * 8 + f) (by omega)
      refine ⟨.inl (some (.inl ((g 0 0).2 3 (k * 8 + f)))), q_O g 0 0 (upd (g 0 0).1 10 0, va_up (g 0 0).2 3 (upd ((g 0 0).2 3) (k * 8 + f) (x3 &&& 1))), (g 0 0).2 3 (k * 8 + f), q_O (q_O g 0 0 (upd (g 0 0).1 10 0, va_up (g 0 0).2 3 (upd ((g 0 0).2 3) (k * 8 + f) (x3 &&& 1)))) 3 0 (upd (g 3 0).1 0 0, va_up (g 3 0).2 39 (upd ((g 3 0).2 39) (k * 8 + f) (x3 &&& 1))), ?_, ?_, ⟨?_, rfl⟩, P, n, tp, ?_⟩
      · rw [(ze_X4_noise (nI k) (nI f) x3 g).trans (zu_X4_noise_0 99999 (nI k) (nI f) x3 g), q_ckK_ok hk, q_bV, q_ckF_ok hf, q_bV, e8, if_pos (q_inb' (by omega) (by decide)), if_pos (q_inb' (by omega) (by decide)), nI_clamp (by omega), if_pos q2]
        simp only [q_gI, q_gA, q_O_get, q_O_O]
      · rw [(ze_X5_noise (nI k) (nI f) x3 _).trans (zu_X5_noise_0 99999 (nI k) (nI f) x3 _), q_wn_ok (hi := (3 : Int32)) (m := 3) rfl (by omega) (by decide), q_bI, if_neg (by decide), q_wn_ok (hi := (7 : Int32)) (m := 7) rfl (by omega) (by decide), q_bI, if_neg (by decide), q_may1 (q_t0 _ _), q_bI, if_neg (by decide), zu_X5_noise_39, e8', if_pos (q_inb' (by omega) (by decide)), if_pos (q_inb' (by omega) (by decide)), nI_clamp (by omega)]
        simp only [q_gI, q_gA, q_O_get, q_O_O]
        rw [q_O_c _ _ _ (show (3 : Nat) ≠ 0 by decide), ← q1, if_pos q2, q1]
      · rw [q_O_get]
        first | exact pk_us | rfl
      · refine ⟨h1, h2, h3, ?_, h5, h6, h7, fun j hj => ?_, q_sk0 _ _ rfl⟩
        · exact h4
        · show upd ((g 0 0).2 3) (k * 8 + f) (x3 &&& 1) j = upd ((g 3 0).2 39) (k * 8 + f) (x3 &&& 1) j ∧ (upd ((g 0 0).2 3) (k * 8 + f) (x3 &&& 1) j = 0 ∨ upd ((g 0 0).2 3) (k * 8 + f) (x3 &&& 1) j = 1)
          by_cases e : j = k * 8 + f
          · subst e
            rw [pk_us, pk_us]
            exact ⟨rfl, q_and1 x3⟩
          · rw [pk_un e, pk_un e]
            exact h8 j hj
    · refine q_sim_bad (b := 0) (e := 0) (c := 1) hg' ?_ ?_ (by decide) rfl
      · rw [(ze_X4_noise (nI k) x2 x3 g).trans (zu_X4_noise_0 99999 (nI k) x2 x3 g), q_ckK_ok hk, q_bV, q_ckF_bad hb, q_bVx]
      · rw [(ze_X5_noise (nI k) x2 x3 _).trans (zu_X5_noise_0 99999 (nI k) x2 x3 _), q_wn_ok (hi := (3 : Int32)) (m := 3) rfl (by omega) (by decide), q_bI, if_neg (by decide), q_wn_bad (hi := (7 : Int32)) (m := 7) rfl hb (by decide), q_bI, if_pos rfl, q_may0 (q_t0 _ _) (by decide), q_bI, if_pos rfl, q_00, q_tt]
  · refine q_sim_bad (b := 0) (e := 0) (c := 1) hg' ?_ ?_ (by decide) rfl
    · rw [(ze_X4_noise x1 x2 x3 g).trans (zu_X4_noise_0 99999 x1 x2 x3 g), q_ckK_bad ha, q_bVx]
    · rw [(ze_X5_noise x1 x2 x3 _).trans (zu_X5_noise_0 99999 x1 x2 x3 _), q_wn_bad (hi := (3 : Int32)) (m := 3) rfl ha (by decide), q_bI, if_pos rfl, q_may0 (q_t0 _ _) (by decide), q_bI, if_pos rfl, q_00, q_tt]
/-! sums -/
def q_ac (f : Nat → Int32) : Nat → Nat → Int32 → Int32
  | 0, _, a => a
  | m + 1, k, a => q_ac f m (k + 1) (a + f k)
theorem q_ac_cong {f f' : Nat → Int32} : ∀ (m k : Nat) (a : Int32), (∀ j, k ≤ j → j < k + m → f j = f' j) → q_ac f m k a = q_ac f' m k a
  | 0, _, _, _ => rfl
  | m + 1, k, a, h => by
    rw [q_ac, q_ac, h k (by omega) (by omega)]
    exact q_ac_cong m (k + 1) _ (fun j h1 h2 => h j (by omega) (by omega))
theorem q_ac_ct {f : Nat → Int32} {p : Nat → Bool} : ∀ (m k : Nat), (∀ j, k ≤ j → j < k + m → f j = if p j then 1 else 0) → q_ac f m k (nI (fb_ct p k)) = nI (fb_ct p (k + m))
  | 0, _, _ => rfl
  | m + 1, k, h => by
    rw [q_ac, h k (by omega) (by omega), show nI (fb_ct p k) + (if p k then (1 : Int32) else 0) = nI (fb_ct p (k + 1)) from by
      rw [fb_ct_succ]
      cases p k
      · exact Int32.add_zero _
      · exact nI_1 _, q_ac_ct m (k + 1) (fun j h1 h2 => h j (by omega) (by omega)), show k + 1 + m = k + (m + 1) by omega]
theorem q_xnf {g : zSG} : ∀ (m k N : Nat) (a : Int32), k + m = 32 → m < N → z_run zM_X4_noisyFields zc_X4_noisyFields zk_X4_noisyFields N 4 [(0, .inr (.inl (0, 0, 0))), (1, .inl a), (2, .inl (nI k))] g (0, 0) = some (.inl (some (.inl (q_ac (fun j => if (g 0 0).2 3 j = 0 then 0 else 1) m k a))), g) := by
  intro m
  induction m with
  | zero =>
    intro k N a hk hN
    obtain ⟨N, rfl⟩ : ∃ N', N = N' + 1 := ⟨N - 1, by omega⟩
    rw [zu_X4_noisyFields_4, if_pos (show (32 : Int32) ≤ nI k from nI_le (a := 32) (by omega) (by omega)), q_ac]
  | succ m ih =>
    intro k N a hk hN
    obtain ⟨N, rfl⟩ : ∃ N', N = N' + 1 := ⟨N - 1, by omega⟩
    rw [zu_X4_noisyFields_4, if_neg (show ¬ (32 : Int32) ≤ nI k from nI_ge (b := 32) (by omega) (by decide)), if_pos (q_inb' (show k < 32 by omega) (by decide)), nI_clamp (by omega), nI_1, q_ac, ih (k + 1) N a (by omega) (by omega), ih (k + 1) N (a + 1) (by omega) (by omega)]
    by_cases e : (g 0 0).2 3 k = 0
    · simp only [if_pos e, Int32.add_zero]
    · simp only [if_neg e]
theorem q_mnf {g : zSG} : ∀ (m k N : Nat) (a : Int32), k + m = 32 → m < N → z_run zM_X5_count zc_X5_count zk_X5_count N 45 [(0, .inr (.inl (3, 0, 0))), (2, .inl a), (3, .inl (nI k))] g (0, 0) = some (.inl (some (.inl (q_ac (fun j => if (g 3 0).2 39 j = 0 then 0 else 1) m k a))), g) := by
  intro m
  induction m with
  | zero =>
    intro k N a hk hN
    obtain ⟨N, rfl⟩ : ∃ N', N = N' + 1 := ⟨N - 1, by omega⟩
    rw [zu_X5_count_45, if_pos (show (32 : Int32) ≤ nI k from nI_le (a := 32) (by omega) (by omega)), q_ac]
  | succ m ih =>
    intro k N a hk hN
    obtain ⟨N, rfl⟩ : ∃ N', N = N' + 1 := ⟨N - 1, by omega⟩
    rw [zu_X5_count_45, if_neg (show ¬ (32 : Int32) ≤ nI k from nI_ge (b := 32) (by omega) (by decide)), if_pos (q_inb' (show k < 32 by omega) (by decide)), nI_clamp (by omega), nI_1, q_ac, ih (k + 1) N (a + 0) (by omega) (by omega), ih (k + 1) N (a + 1) (by omega) (by omega)]
    by_cases e : (g 3 0).2 39 k = 0
    · simp only [if_pos e]
    · simp only [if_neg e]
theorem q_xst {g : zSG} : ∀ (m k N : Nat) (a : Int32), k + m = 8 → m < N → z_run zM_X4_stepsOfTexts zc_X4_stepsOfTexts zk_X4_stepsOfTexts N 4 [(0, .inr (.inl (0, 0, 0))), (1, .inl a), (2, .inl (nI k))] g (0, 0) = some (.inl (some (.inl (q_ac (fun j => (g 5 j).1 1) m k a))), g) := by
  intro m
  induction m with
  | zero =>
    intro k N a hk hN
    obtain ⟨N, rfl⟩ : ∃ N', N = N' + 1 := ⟨N - 1, by omega⟩
    rw [zu_X4_stepsOfTexts_4, if_pos (show (8 : Int32) ≤ nI k from nI_le (a := 8) (by omega) (by omega)), q_ac]
  | succ m ih =>
    intro k N a hk hN
    obtain ⟨N, rfl⟩ : ∃ N', N = N' + 1 := ⟨N - 1, by omega⟩
    rw [zu_X4_stepsOfTexts_4, if_neg (show ¬ (8 : Int32) ≤ nI k from nI_ge (b := 8) (by omega) (by decide)), if_pos (q_inb' (show k < 8 by omega) (by decide)), nI_clamp (by omega), if_pos (by omega), nI_1, q_ac, ih (k + 1) N _ (by omega) (by omega)]
theorem q_mst {g : zSG} : ∀ (m k N : Nat) (a : Int32), k + m = 8 → m < N → z_run zM_X5_count zc_X5_count zk_X5_count N 85 [(0, .inr (.inl (3, 0, 0))), (2, .inl a), (3, .inl (nI k))] g (0, 0) = some (.inl (some (.inl (q_ac (fun j => (g 3 0).2 15 j) m k a))), g) := by
  intro m
  induction m with
  | zero =>
    intro k N a hk hN
    obtain ⟨N, rfl⟩ : ∃ N', N = N' + 1 := ⟨N - 1, by omega⟩
    rw [zu_X5_count_85, if_pos (show (8 : Int32) ≤ nI k from nI_le (a := 8) (by omega) (by omega)), q_ac]
  | succ m ih =>
    intro k N a hk hN
    obtain ⟨N, rfl⟩ : ∃ N', N = N' + 1 := ⟨N - 1, by omega⟩
    rw [zu_X5_count_85, if_neg (show ¬ (8 : Int32) ≤ nI k from nI_ge (b := 8) (by omega) (by decide)), if_pos (q_inb' (show k < 8 by omega) (by decide)), nI_clamp (by omega), nI_1, q_ac, ih (k + 1) N _ (by omega) (by omega)]
theorem q_s_count (x1 : Int32) : q_sim (fun _ => 0) zF_X4_count zF_X5_count [.inl x1] := by
  intro g hg
  obtain ⟨P, n, tp, h⟩ := hg
  have h0 := h
  obtain ⟨h1, ⟨⟨k0, -⟩, -, k3, -⟩, h3, h4, ⟨b1, -, -, b5, -⟩, h6, ⟨-, t1, t2, -⟩, h8, h9⟩ := h
  have t15 : (z_gI g 3 0 0 0 3 0).2 = (g 3 0).2 := by
    rw [q_gI, q_O_get]
  have ex := (ze_X4_count x1 g).trans (zu_X4_count_0 99999 x1 g)
  have em := (ze_X5_count x1 g).trans (zu_X5_count_0 99999 x1 g)
  by_cases c0 : x1.toInt = 0
  · rw [if_pos c0] at ex em
    exact ⟨_, _, _, _, ex, em, ⟨q_t0 _ _, by rw [k0, b1]⟩, P, n, tp, q_INV_t h0⟩
  · rw [if_neg c0] at ex em
    by_cases c1 : x1.toInt = 1
    · rw [if_pos c1] at ex em
      have e2 := q_xnf (g := g) 32 0 99999 0 (by omega) (by omega)
      have e3 := q_mnf (g := z_gI g 3 0 0 0) 32 0 99999 0 (by omega) (by omega)
      rw [(ze_X4_noisyFields g).trans (zu_X4_noisyFields_0 99999 g), show z_run zM_X4_noisyFields zc_X4_noisyFields zk_X4_noisyFields 99999 4 [(0, .inr (.inl (0, 0, 0))), (1, .inl (0 : Int32)), (2, .inl (0 : Int32))] g (0, 0) = _ from e2, q_bI] at ex
      refine ⟨_, _, _, _, ex, em.trans e3, ⟨q_t0 _ _, ?_⟩, P, n, tp, q_INV_t h0⟩
      rw [t15]
      exact q_ac_cong 32 0 0 (fun j _ hj => by rw [(h8 j (by omega)).1])
    · rw [if_neg c1] at ex em
      by_cases c2 : x1.toInt = 2
      · rw [if_pos c2] at ex em
        exact ⟨_, _, _, _, ex, em, ⟨q_t0 _ _, by rw [t1, t2]⟩, P, n, tp, q_INV_t h0⟩
      · rw [if_neg c2] at ex em
        by_cases c3 : x1.toInt = 3
        · rw [if_pos c3] at ex em
          have e2 := q_xst (g := g) 8 0 99999 0 (by omega) (by omega)
          have e3 := q_mst (g := z_gI g 3 0 0 0) 8 0 99999 0 (by omega) (by omega)
          rw [(ze_X4_stepsOfTexts g).trans (zu_X4_stepsOfTexts_0 99999 g), show z_run zM_X4_stepsOfTexts zc_X4_stepsOfTexts zk_X4_stepsOfTexts 99999 4 [(0, .inr (.inl (0, 0, 0))), (1, .inl (0 : Int32)), (2, .inl (0 : Int32))] g (0, 0) = _ from e2, q_bI] at ex
          refine ⟨_, _, _, _, ex, em.trans e3, ⟨q_t0 _ _, ?_⟩, P, n, tp, q_INV_t h0⟩
          rw [t15]
          exact q_ac_cong 8 0 0 (fun j _ hj => by rw [(k3 j (by omega)).2.1, (b5 j (by omega)).2.1])
        · rw [if_neg c3] at ex em
          exact ⟨_, _, _, _, ex, em, ⟨q_t0 _ _, rfl⟩, P, n, tp, q_INV_t h0⟩
