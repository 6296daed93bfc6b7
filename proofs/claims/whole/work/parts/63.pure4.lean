/-! ===== pure part: the steps of the reference ===== -/
def q_sdr (w : Nat → Int32) (t : Nat) (dn : Nat → Int32) (E : zLS) : Prop := ∃ M, M < 2 ^ 30 ∧ E.1 6 = nI M ∧ (∀ i, i < 30 → dn (30 * t + i) = if M.testBit i then 1 else 0) ∧ ∀ j, (j < 30 * t ∨ 30 * t + 30 ≤ j) → dn j = w j
theorem q_op_stp (kept : Nat → Int32) (a b : Int32) (o : Nat × Nat) (st : List Int32) (E : zLS) (i : Nat) : q_op kept a b o st (q_stp i E) = ((q_op kept a b o st E).1, q_stp i (q_op kept a b o st E).2) := by
  obtain ⟨k, v⟩ := o
  match k with
  | 0 => rfl
  | 1 => rfl
  | 2 => rfl
  | 3 =>
    refine Prod.ext rfl (Prod.ext (funext fun k => ?_) rfl)
    show upd (upd (upd E.1 6 _) 5 _) 0 (E.1 0 + 1) k = upd (upd (upd E.1 0 _) 6 (E.1 6 ||| nI (2 ^ i))) 5 (E.1 5 + 1) k
    unfold upd
    by_cases h0 : k = 0 <;> by_cases h5 : k = 5 <;> by_cases h6 : k = 6 <;> simp_all
  | 4 =>
    rcases st with _ | ⟨x, r⟩
    · rfl
    · refine Prod.ext rfl (Prod.ext (funext fun k => ?_) rfl)
      show upd (upd (upd E.1 6 _) 5 _) 2 (E.1 2 ||| ((1 : Int32) <<< ((x &&& 7) &&& 31))) k = upd (upd (upd E.1 2 _) 6 (E.1 6 ||| nI (2 ^ i))) 5 (E.1 5 + 1) k
      unfold upd
      by_cases h0 : k = 2 <;> by_cases h5 : k = 5 <;> by_cases h6 : k = 6 <;> simp_all
  | 5 =>
    rcases st with _ | ⟨x, r⟩
    · rfl
    · refine Prod.ext rfl (Prod.ext (funext fun k => ?_) rfl)
      show upd (upd (upd E.1 6 _) 5 _) 1 (E.1 1 + 1) k = upd (upd (upd E.1 1 _) 6 (E.1 6 ||| nI (2 ^ i))) 5 (E.1 5 + 1) k
      unfold upd
      by_cases h0 : k = 1 <;> by_cases h5 : k = 5 <;> by_cases h6 : k = 6 <;> simp_all
  | k + 6 =>
    rcases st with _ | ⟨x, _ | ⟨w, r⟩⟩
    · rfl
    · rfl
    · rfl
theorem q_ops_stp (kept : Nat → Int32) (a b : Int32) (i : Nat) : ∀ (ops : List (Nat × Nat)) (st : List Int32) (E : zLS), q_ops kept a b ops st (q_stp i E) = ((q_ops kept a b ops st E).1, q_stp i (q_ops kept a b ops st E).2)
  | [], st, E => rfl
  | o :: r, st, E => by
    rw [q_ops, q_op_stp]
    exact q_ops_stp kept a b i r _ _
theorem q_sdr_ops {w dn : Nat → Int32} {t : Nat} {E : zLS} (kept : Nat → Int32) (a b : Int32) (ops : List (Nat × Nat)) (st : List Int32) (h : q_sdr w t dn E) : q_sdr w t dn (q_ops kept a b ops st E).2 := by
  obtain ⟨M, h1, h2, h3⟩ := h
  exact ⟨M, h1, ((q_ops_keep kept a b ops st E).1 6 (by decide)).trans h2, h3⟩
theorem q_sdr_stp {w dn : Nat → Int32} {t i : Nat} {E : zLS} (hi : i < 30) (h : q_sdr w t dn E) : q_sdr w t (upd dn (30 * t + i) 1) (q_stp i E) := by
  obtain ⟨M, h1, h2, h3, h4⟩ := h
  refine ⟨M ||| 2 ^ i, Nat.or_lt_two_pow h1 (Nat.pow_lt_pow_right (by decide) hi), ?_, fun j hj => ?_, fun j hj => ?_⟩
  · show E.1 6 ||| nI (2 ^ i) = nI (M ||| 2 ^ i)
    rw [h2, fa_or]
  · rw [fb_bit_set]
    by_cases e : j = i
    · subst e
      rw [pk_us]
      simp
    · rw [pk_un (by omega), h3 j hj]
      simp [e]
  · rw [pk_un (by omega)]
    exact h4 j hj
theorem q_act_6 (kd : Nat) (st : List Int32) (E : zLS) : (q_act kd st E).1 6 = E.1 6 := by
  unfold q_act
  split
  · rfl
  · split <;> rfl
  · rfl
theorem q_sdr_act {w dn : Nat → Int32} {t : Nat} {E : zLS} (kd : Nat) (st : List Int32) (h : q_sdr w t dn E) : q_sdr w t dn (q_act kd st E) := by
  obtain ⟨M, h1, h2, h3⟩ := h
  exact ⟨M, h1, (q_act_6 kd st E).trans h2, h3⟩
theorem q_spM_drop {s n : Nat → Int32} {b : Nat} : ∀ {r : List qIt} {i p : Nat} (k : Nat), k ≤ r.length → q_spM s n b i p r → q_spM s n b (i + k) (p + q_lm (r.take k)) (r.drop k)
  | r, i, p, 0, _, h => by simpa [q_lm] using h
  | [], i, p, k + 1, hk, _ => absurd hk (by simp)
  | it :: r, i, p, k + 1, hk, h => by
    have h1 := q_spM_drop k (by simpa using hk) h.2.2.2.2
    rw [show i + 1 + k = i + (k + 1) by omega] at h1
    rw [List.take_succ_cons, List.drop_succ_cons, q_lm, show p + (it.2.1.length + 2 + q_lm (r.take k)) = p + 1 + it.2.1.length + 1 + q_lm (r.take k) by omega]
    exact h1
theorem q_lm_drop : ∀ (r : List qIt) (k : Nat), q_lm (r.take k) + q_lm (r.drop k) = q_lm r
  | r, 0 => by simp [q_lm]
  | [], k + 1 => by simp [q_lm]
  | it :: r, k + 1 => by
    have h1 := q_lm_drop r k
    simp only [List.take_succ_cons, List.drop_succ_cons, q_lm]
    omega
section Mi
variable {y : zLS} {ask : Nat} {g : zSG} {a b : Int32}
theorem q_mend {t N n p : Nat} {f fl dn : Nat → Int32} {E : zLS} (ht : t < 8) (hN : y.2 14 t = nI N) (hN5 : N ≤ 500) (hp : p = N) : z_run zM_X5_does zc_X5_does zk_X5_does (n + 1) 121 [(0, .inr (.inl (3, 0, 0))), (2, .inl (nI ask)), (3, .inl (nI t)), (4, .inl a), (6, .inl (nI p))] (q_O g 3 0 (q_V y ask f fl dn 0 E)) (0, 0) = some (.inl none, q_O g 3 0 (q_V y ask f fl dn 0 E)) := by
  subst hp
  rw [zu_X5_does_121, q_O_get, q_V_14, if_pos (q_inb' ht (by decide)), nI_clamp (show t < 2 ^ 31 by omega), hN, if_pos (nI_le (Nat.le_refl _) (by omega))]
theorem q_mitems (ha : ask < 30) {t N : Nat} (ht : t < 8) (hN : y.2 14 t = nI N) (hN5 : N ≤ 500) (hb : y.2 21 ask = b) : ∀ (m : Nat) (its : List qIt), its.length ≤ m → ∀ (i p n : Nat) (E : zLS) (f fl dn : Nat → Int32), q_spM (y.2 12) (y.2 13) (500 * t) i p its → q_wfI its → i + its.length ≤ 30 → p + q_lm its = N → q_lm its < n → q_anr (y.2 27) ask fl E → q_sdr (y.2 33) t dn E →
    ∃ f' fl' dn', z_run zM_X5_does zc_X5_does zk_X5_does n 121 [(0, .inr (.inl (3, 0, 0))), (2, .inl (nI ask)), (3, .inl (nI t)), (4, .inl a), (6, .inl (nI p))] (q_O g 3 0 (q_V y ask f fl dn 0 E)) (0, 0) = some (.inl none, q_O g 3 0 (q_V y ask f' fl' dn' 0 (q_ex (y.2 18) a b i its 0 E))) ∧ q_anr (y.2 27) ask fl' (q_ex (y.2 18) a b i its 0 E) ∧ q_sdr (y.2 33) t dn' (q_ex (y.2 18) a b i its 0 E) := by
  intro m
  induction m with
  | zero =>
    intro its hm i p n E f fl dn hsp hwf h30 hp hn han hdr
    have e : its = [] := List.eq_nil_of_length_eq_zero (by omega)
    subst e
    obtain ⟨n, rfl⟩ : ∃ n', n = n' + 1 := ⟨n - 1, by omega⟩
    exact ⟨f, fl, dn, q_mend ht hN hN5 hp, han, hdr⟩
  | succ m ih =>
    intro its hm i p n E f fl dn hsp hwf h30 hp hn han hdr
    rcases its with _ | ⟨⟨kd, ops, body⟩, its⟩
    · obtain ⟨n, rfl⟩ : ∃ n', n = n' + 1 := ⟨n - 1, by omega⟩
      exact ⟨f, fl, dn, q_mend ht hN hN5 hp, han, hdr⟩
    · simp only [q_lm] at hp hn
      simp only [List.length_cons] at hm h30
      obtain ⟨hkk, hwo, hdp, hbd, hwr⟩ := hwf
      obtain ⟨sp0, sp1, sp2, sp3, sp4⟩ := hsp
      dsimp only at hkk hwo hdp hbd sp0 sp1 sp2 sp3 sp4
      obtain ⟨n, rfl⟩ : ∃ n', n = n' + 1 + ops.length + 1 := ⟨n - 2 - ops.length, by omega⟩
      have htl := q_lm_drop its body
      have e5 : (500 : Int32) * nI t + nI p = nI (500 * t + p) := by rw [show (500 : Int32) = nI 500 from rfl, pk_mul, nI_add]
      have e3 : (30 : Int32) * nI t + nI i = nI (30 * t + i) := by rw [show (30 : Int32) = nI 30 from rfl, pk_mul, nI_add]
      rw [zu_X5_does_121, q_O_get, q_V_14, q_V_12, q_V_13, q_V_33, if_pos (q_inb' ht (by decide)), nI_clamp (show t < 2 ^ 31 by omega), hN, if_neg (nI_ge (show p < N by omega) (by omega)), e5, if_pos (q_inb' (by omega) (by decide)), if_pos (q_inb' (by omega) (by decide)), nI_clamp (show 500 * t + p < 2 ^ 31 by omega), sp0.1, sp0.2, nI_1]
      rw [if_neg (by decide), if_neg (by decide), if_neg (by decide), if_neg (by decide), if_neg (by decide), if_neg (by decide), if_neg (by decide), if_neg (by decide), if_neg (by decide), if_pos (by decide), if_pos (q_inb' ha (by decide)), if_pos (q_inb' ha (by decide)), e3, if_pos (q_inb' (by omega) (by decide)), nI_clamp (show ask < 2 ^ 31 by omega), nI_clamp (show 30 * t + i < 2 ^ 31 by omega), q_V_r30]
      simp only [q_gA, q_O_get, q_O_O]
      rw [q_V3033 (E.1 5 + 1) (E.1 6 ||| nI (2 ^ i))]
      rw [show (upd (upd E.1 6 (E.1 6 ||| nI (2 ^ i))) 5 (E.1 5 + 1), E.2) = q_stp i E from rfl, show ((1 : Int32) &&& 1) = 1 from rfl]
      obtain ⟨f1, e1, s1, l1⟩ := q_mops (y := y) (g := g) (fl := fl) (dn := upd dn (30 * t + i) 1) (a := a) ha ht hN hN5 hb ops (p + 1) (n + 1) _ [] (q_stp i E) f sp1 hdp trivial (by omega)
      rw [show ([] : List Int32).length = 0 from rfl] at e1
      have hdr1 := q_sdr_ops (y.2 18) a b ops [] hdr
      have han1 := q_anr_stp i (q_anr_ops (a := a) (b := b) (y.2 18) ops [] han)
      have hdr2 := q_sdr_stp (i := i) (by omega) hdr1
      rw [e1, q_ops_stp]
      rw [q_ops_stp] at s1 l1
      dsimp only at s1 l1 ⊢
      generalize hE1 : (q_ops (y.2 18) a b ops [] E).2 = E1 at *
      generalize hst : (q_ops (y.2 18) a b ops [] E).1 = st at *
      have e6 : (500 : Int32) * nI t + nI (p + 1 + ops.length) = nI (500 * t + (p + 1 + ops.length)) := by rw [show (500 : Int32) = nI 500 from rfl, pk_mul, nI_add]
      rw [zu_X5_does_121, q_O_get, q_V_14, q_V_12, q_V_13, if_pos (q_inb' ht (by decide)), nI_clamp (show t < 2 ^ 31 by omega), hN, if_neg (nI_ge (show p + 1 + ops.length < N by omega) (by omega)), e6, if_pos (q_inb' (by omega) (by decide)), if_pos (q_inb' (by omega) (by decide)), nI_clamp (show 500 * t + (p + 1 + ops.length) < 2 ^ 31 by omega), sp2, nI_1]
      rcases hkk with rfl | rfl | rfl
      · rcases st with _ | ⟨v, _ | ⟨w, _ | ⟨_, _⟩⟩⟩
        · simp at l1
        · simp at l1
        · rw [if_neg (by decide), if_neg (by decide), if_neg (by decide), if_neg (by decide), if_neg (by decide), if_neg (by decide), if_pos (by decide)]
          rw [show (if (11 : Nat) = 11 then 2 else 1) = 1 + 1 from rfl, q_mpop (by decide), q_bI, show (1 : Nat) = 0 + 1 from rfl, q_mpop (by decide), q_bI, show f1 (0 + 1) = v from s1.1, show f1 0 = w from s1.2.1, if_pos (q_and7 w), if_pos (q_inb' ha (by decide)), if_pos (q_inb' ha (by decide)), nI_clamp (show ask < 2 ^ 31 by omega)]
          simp only [q_gA, q_O_get, q_O_O, q_V_r29, q_V_31]
          rw [q_V3129]
          obtain ⟨f2, fl2, dn2, e2, a2, d2⟩ := ih its (by omega) (i + 1) (p + 1 + ops.length + 1) n (q_act 11 [v, w] (q_stp i E1)) f1 fl (upd dn (30 * t + i) 1) sp4 hwr (by omega) (by omega) (by omega) han1 (q_sdr_act 11 [v, w] hdr2)
          have e4 : q_ex (y.2 18) a b i ((11, ops, body) :: its) 0 E = q_ex (y.2 18) a b (i + 1) its 0 (q_act 11 [v, w] (q_stp i E1)) := by
            simp [q_ex, hE1, hst]
          rw [e4]
          exact ⟨f2, fl2, dn2, e2, a2, d2⟩
        · simp at l1
      · rcases st with _ | ⟨v, _ | ⟨_, _⟩⟩
        · simp at l1
        · obtain ⟨m8, hm8, hm4, han2, han3⟩ := han1
          have e4 : q_ex (y.2 18) a b i ((12, ops, body) :: its) 0 E = q_ex (y.2 18) a b (i + 1) its 0 (q_act 12 [v] (q_stp i E1)) := by
            simp [q_ex, hE1, hst]
          rw [e4]
          rw [if_neg (by decide), if_neg (by decide), if_neg (by decide), if_neg (by decide), if_neg (by decide), if_neg (by decide), if_neg (by decide), if_pos (by decide)]
          rw [show (if (12 : Nat) = 11 then 2 else 1) = 0 + 1 from rfl, q_mpop (by decide), q_bI, show f1 0 = v from s1.1, if_pos (q_inb' ha (by decide)), q_O_get, nI_clamp (show ask < 2 ^ 31 by omega), q_V_r26, hm4]
          by_cases h8 : m8 < 8
          · have e8 : (8 : Int32) * nI ask + nI m8 = nI (ask * 8 + m8) := by rw [show (8 : Int32) = nI 8 from rfl, pk_mul, nI_add, Nat.mul_comm]
            rw [if_neg (show ¬ (8 : Int32) ≤ nI m8 from nI_ge (b := 8) h8 (by decide)), if_pos (q_inb' ha (by decide)), e8, if_pos (q_inb' (by omega) (by decide)), if_pos (q_inb' ha (by decide)), if_pos (q_inb' ha (by decide)), nI_clamp (show ask * 8 + m8 < 2 ^ 31 by omega), q_V_27, nI_1]
            simp only [q_gA, q_O_get, q_O_O]
            rw [q_V2726]
            have e3 : q_act 12 [v] (q_stp i E1) = (upd (q_stp i E1).1 4 (nI (m8 + 1)), va_up (q_stp i E1).2 1 (upd ((q_stp i E1).2 1) m8 v)) := by
              rw [q_act_12, hm4, nI_clamp (by omega), if_pos h8, nI_1]
            obtain ⟨f2, fl2, dn2, e2, a2, d2⟩ := ih its (by omega) (i + 1) (p + 1 + ops.length + 1) n (q_act 12 [v] (q_stp i E1)) f1 (upd fl (ask * 8 + m8) v) (upd dn (30 * t + i) 1) sp4 hwr (by omega) (by omega) (by omega) (by
              rw [e3]
              refine ⟨m8 + 1, by omega, (show upd (q_stp i E1).1 4 (nI (m8 + 1)) 4 = nI (m8 + 1) from pk_us), fun j hj => ?_, fun i hi => ?_⟩
              · show upd fl (ask * 8 + m8) v (ask * 8 + j) = upd ((q_stp i E1).2 1) m8 v j
                by_cases hj2 : j = m8
                · subst hj2
                  rw [pk_us, pk_us]
                · rw [pk_un (by omega), pk_un hj2]
                  exact han2 j (by omega)
              · rw [pk_un (by omega)]
                exact han3 i hi) (q_sdr_act 12 [v] hdr2)
            refine ⟨f2, fl2, dn2, ?_, a2, d2⟩
            rw [← e2, e3]
            rfl
          · rw [if_pos (show (8 : Int32) ≤ nI m8 from nI_le (a := 8) (by omega) (by omega))]
            have e3 : q_act 12 [v] (q_stp i E1) = q_stp i E1 := by
              rw [q_act_12, hm4, nI_clamp (by omega), if_neg h8]
            rw [e3]
            exact ih its (by omega) (i + 1) (p + 1 + ops.length + 1) n (q_stp i E1) f1 fl (upd dn (30 * t + i) 1) sp4 hwr (by omega) (by omega) (by omega) ⟨m8, hm8, hm4, han2, han3⟩ hdr2
        · simp at l1
      · rcases st with _ | ⟨v, _ | ⟨_, _⟩⟩
        · simp at l1
        · rw [if_neg (by decide), if_neg (by decide), if_neg (by decide), if_neg (by decide), if_neg (by decide), if_neg (by decide), if_neg (by decide), if_neg (by decide), if_pos (by decide)]
          rw [show (if (13 : Nat) = 11 then 2 else 1) = 0 + 1 from rfl, q_mpop (by decide), q_bI, show f1 0 = v from s1.1]
          by_cases hv : v = 0
          · rw [if_pos hv, sp3 rfl]
            have e4 : q_ex (y.2 18) a b i ((13, ops, body) :: its) 0 E = q_ex (y.2 18) a b (i + 1 + body) (its.drop body) 0 (q_stp i E1) := by
              rw [← q_ex_skip]
              simp [q_ex, hE1, hst, hv, q_act]
            rw [e4]
            exact ih (its.drop body) (by rw [List.length_drop]; omega) (i + 1 + body) (p + 1 + ops.length + 1 + q_lm (its.take body)) n (q_stp i E1) f1 fl (upd dn (30 * t + i) 1) (q_spM_drop body (hbd rfl) sp4) (q_wfI_drop body hwr) (by have := hbd rfl; rw [List.length_drop]; omega) (by omega) (by omega) han1 hdr2
          · rw [if_neg hv]
            have e4 : q_ex (y.2 18) a b i ((13, ops, body) :: its) 0 E = q_ex (y.2 18) a b (i + 1) its 0 (q_stp i E1) := by
              simp [q_ex, hE1, hst, hv, q_act]
            rw [e4]
            exact ih its (by omega) (i + 1) (p + 1 + ops.length + 1) n (q_stp i E1) f1 fl (upd dn (30 * t + i) 1) sp4 hwr (by omega) (by omega) (by omega) han1 hdr2
        · simp at l1
end Mi
