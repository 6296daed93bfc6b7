/-! ===== pure part: a script of the reference is obeyed ===== -/
def q_V (y : zLS) (ask : Nat) (f fl dn : Nat → Int32) (d : Nat) (E : zLS) : zLS :=
  (upd (upd (upd y.1 37 (E.1 1)) 36 (E.1 0)) 38 (nI d),
   va_up (va_up (va_up (va_up (va_up (va_up (va_up (va_up y.2 30 (upd (y.2 30) ask (E.1 5))) 29 (upd (y.2 29) ask (E.1 3))) 26 (upd (y.2 26) ask (E.1 4))) 27 fl) 31 (E.2 0)) 28 (upd (y.2 28) ask (E.1 2))) 33 dn) 32 f)
def q_spMO (s n : Nat → Int32) (b : Nat) : Nat → List (Nat × Nat) → Prop
  | _, [] => True
  | p, o :: r => (s (b + p) = nI o.1 ∧ n (b + p) = nI o.2) ∧ q_spMO s n b (p + 1) r
def q_lm : List qIt → Nat
  | [] => 0
  | it :: r => it.2.1.length + 2 + q_lm r
def q_spM (s n : Nat → Int32) (b : Nat) : Nat → Nat → List qIt → Prop
  | _, _, [] => True
  | i, p, it :: r => (s (b + p) = nI 14 ∧ n (b + p) = nI i) ∧ q_spMO s n b (p + 1) it.2.1 ∧ s (b + (p + 1 + it.2.1.length)) = nI it.1 ∧ (it.1 = 13 → n (b + (p + 1 + it.2.1.length)) = nI (p + 1 + it.2.1.length + 1 + q_lm (r.take it.2.2))) ∧ q_spM s n b (i + 1) (p + 1 + it.2.1.length + 1) r
section Vr
variable {y : zLS} {ask : Nat} {f fl dn : Nat → Int32} {d : Nat} {E : zLS} {g : zSG}
theorem q_V38 (f' : Nat → Int32) (d' : Nat) : (upd (q_V y ask f fl dn d E).1 38 (nI d'), va_up (q_V y ask f fl dn d E).2 32 f') = q_V y ask f' fl dn d' E := by
  unfold q_V
  simp only [fa_upd_twice, bx_uu]
theorem q_V38' (d' : Nat) : (upd (q_V y ask f fl dn d E).1 38 (nI d'), (q_V y ask f fl dn d E).2) = q_V y ask f fl dn d' E := by
  unfold q_V
  simp only [fa_upd_twice]
theorem q_V36 (v : Int32) : (upd (q_V y ask f fl dn d E).1 36 v, (q_V y ask f fl dn d E).2) = q_V y ask f fl dn d (upd E.1 0 v, E.2) := by
  refine Prod.ext (funext fun k => ?_) rfl
  by_cases h : k = 36 <;> simp [q_V, upd, h]
theorem q_V37 (v : Int32) : (upd (q_V y ask f fl dn d E).1 37 v, (q_V y ask f fl dn d E).2) = q_V y ask f fl dn d (upd E.1 1 v, E.2) := by
  refine Prod.ext (funext fun k => ?_) rfl
  by_cases h : k = 37 <;> simp [q_V, upd, h]
theorem q_V_i36 : (q_V y ask f fl dn d E).1 36 = E.1 0 := rfl
theorem q_V_i37 : (q_V y ask f fl dn d E).1 37 = E.1 1 := rfl
theorem q_V_i38 : (q_V y ask f fl dn d E).1 38 = nI d := rfl
theorem q_V_12 : (q_V y ask f fl dn d E).2 12 = y.2 12 := rfl
theorem q_V_13 : (q_V y ask f fl dn d E).2 13 = y.2 13 := rfl
theorem q_V_14 : (q_V y ask f fl dn d E).2 14 = y.2 14 := rfl
theorem q_V_18 : (q_V y ask f fl dn d E).2 18 = y.2 18 := rfl
theorem q_V_21 : (q_V y ask f fl dn d E).2 21 = y.2 21 := rfl
theorem q_V_27 : (q_V y ask f fl dn d E).2 27 = fl := rfl
theorem q_V_31 : (q_V y ask f fl dn d E).2 31 = E.2 0 := rfl
theorem q_V_32 : (q_V y ask f fl dn d E).2 32 = f := rfl
theorem q_V_33 : (q_V y ask f fl dn d E).2 33 = dn := rfl
theorem q_V_r26 : (q_V y ask f fl dn d E).2 26 ask = E.1 4 := pk_us
theorem q_V_r28 : (q_V y ask f fl dn d E).2 28 ask = E.1 2 := pk_us
theorem q_V_r29 : (q_V y ask f fl dn d E).2 29 ask = E.1 3 := pk_us
theorem q_V_r30 : (q_V y ask f fl dn d E).2 30 ask = E.1 5 := pk_us
theorem q_V28 (v : Int32) : ((q_V y ask f fl dn d E).1, va_up (q_V y ask f fl dn d E).2 28 (upd ((q_V y ask f fl dn d E).2 28) ask v)) = q_V y ask f fl dn d (upd E.1 2 v, E.2) := by
  refine Prod.ext rfl (funext fun k => ?_)
  by_cases h : k = 28 <;> simp [q_V, va_up, h, fa_upd_twice, pk_us, pk_un]
theorem q_V3129 (v : Int32) (w : Nat → Int32) : ((q_V y ask f fl dn d E).1, va_up (va_up (q_V y ask f fl dn d E).2 31 w) 29 (upd ((q_V y ask f fl dn d E).2 29) ask v)) = q_V y ask f fl dn d (upd E.1 3 v, va_up E.2 0 w) := by
  refine Prod.ext rfl (funext fun k => ?_)
  by_cases h : k = 29
  · simp [q_V, va_up, h, fa_upd_twice, pk_us, pk_un]
  · by_cases h7 : k = 31 <;> simp [q_V, va_up, h, h7, fa_upd_twice, pk_us, pk_un]
theorem q_V2726 (v : Int32) (w : Nat → Int32) : ((q_V y ask f fl dn d E).1, va_up (va_up (q_V y ask f fl dn d E).2 27 w) 26 (upd ((q_V y ask f fl dn d E).2 26) ask v)) = q_V y ask f w dn d (upd E.1 4 v, E.2) := by
  refine Prod.ext rfl (funext fun k => ?_)
  by_cases h : k = 26
  · simp [q_V, va_up, h, fa_upd_twice, pk_us, pk_un]
  · by_cases h7 : k = 27 <;> simp [q_V, va_up, h, h7, fa_upd_twice, pk_us, pk_un]
theorem q_V3033 (v w : Int32) (u : Nat → Int32) : ((q_V y ask f fl dn d E).1, va_up (va_up (q_V y ask f fl dn d E).2 30 (upd ((q_V y ask f fl dn d E).2 30) ask v)) 33 u) = q_V y ask f fl u d (upd (upd E.1 6 w) 5 v, E.2) := by
  refine Prod.ext rfl (funext fun k => ?_)
  by_cases h : k = 30
  · simp [q_V, va_up, h, fa_upd_twice, pk_us, pk_un]
  · by_cases h7 : k = 33 <;> simp [q_V, va_up, h, h7, fa_upd_twice, pk_us, pk_un]
theorem q_mpush (v : Int32) (hd : d < 128) : zF_X5_push [.inr (.inl (3, 0, 0)), .inl v] (q_O g 3 0 (q_V y ask f fl dn d E)) = some (.inl none, q_O g 3 0 (q_V y ask (upd f d v) fl dn (d + 1) E)) := by
  rw [(ze_X5_push v _).trans (zu_X5_push_0 99999 v _), q_O_get, q_V_i38, if_pos (q_inb' hd (by decide)), nI_clamp (by omega)]
  simp only [q_gI, q_gA, q_O_get, q_O_O, nI_1, q_V_32]
  rw [q_V38]
theorem q_mpop (hd : d < 128) : zF_X5_pop [.inr (.inl (3, 0, 0))] (q_O g 3 0 (q_V y ask f fl dn (d + 1) E)) = some (.inl (some (.inl (f d))), q_O g 3 0 (q_V y ask f fl dn d E)) := by
  rw [(ze_X5_pop _).trans (zu_X5_pop_0 99999 _), q_O_get, q_V_i38, nI_pred, if_pos (q_inb' hd (by decide)), nI_clamp (by omega)]
  simp only [q_gI, q_O_get, q_O_O, q_V_32]
  rw [q_V38']
theorem q_mop (ha : ask < 30) {t N p k v d' n : Nat} (ht : t < 8) (hN : y.2 14 t = nI N) (hN5 : N ≤ 500) (hp : p < N) (h1 : y.2 12 (500 * t + p) = nI k) (h2 : y.2 13 (500 * t + p) = nI v) {a b : Int32} (hb : y.2 21 ask = b) {st : List Int32} (hs : q_st f st) (hk : q_dep k st.length = some d') :
    ∃ f', z_run zM_X5_does zc_X5_does zk_X5_does (n + 1) 121 [(0, .inr (.inl (3, 0, 0))), (2, .inl (nI ask)), (3, .inl (nI t)), (4, .inl a), (6, .inl (nI p))] (q_O g 3 0 (q_V y ask f fl dn st.length E)) (0, 0) = z_run zM_X5_does zc_X5_does zk_X5_does n 121 [(0, .inr (.inl (3, 0, 0))), (2, .inl (nI ask)), (3, .inl (nI t)), (4, .inl a), (6, .inl (nI (p + 1)))] (q_O g 3 0 (q_V y ask f' fl dn d' (q_op (y.2 18) a b (k, v) st E).2)) (0, 0) ∧ q_st f' (q_op (y.2 18) a b (k, v) st E).1 := by
  have e5 : (500 : Int32) * nI t + nI p = nI (500 * t + p) := by rw [show (500 : Int32) = nI 500 from rfl, pk_mul, nI_add]
  rw [zu_X5_does_121, q_O_get, q_V_14, q_V_12, q_V_13, q_V_21, q_V_i36, q_V_i37, if_pos (q_inb' ht (by decide)), nI_clamp (show t < 2 ^ 31 by omega), hN, if_neg (nI_ge hp (by omega)), e5, if_pos (q_inb' (by omega) (by decide)), if_pos (q_inb' (by omega) (by decide)), nI_clamp (show 500 * t + p < 2 ^ 31 by omega), h1, h2, nI_1]
  unfold q_dep at hk
  match k, hk with
  | 0, hk =>
    simp at hk
    obtain ⟨h1, rfl⟩ := hk
    rw [if_pos (by decide), q_mpush _ (by omega), q_bV]
    exact ⟨_, rfl, q_st_push hs⟩
  | 1, hk =>
    simp at hk
    obtain ⟨h1, rfl⟩ := hk
    rw [if_neg (by decide), if_pos (by decide), q_mpush _ (by omega), q_bV]
    exact ⟨_, rfl, q_st_push hs⟩
  | 2, hk =>
    simp at hk
    obtain ⟨h1, rfl⟩ := hk
    rw [if_neg (by decide), if_neg (by decide), if_pos (by decide), if_pos (q_inb' ha (by decide)), nI_clamp (show ask < 2 ^ 31 by omega), hb, q_mpush _ (by omega), q_bV]
    exact ⟨_, rfl, q_st_push hs⟩
  | 3, hk =>
    simp at hk
    obtain ⟨h1, rfl⟩ := hk
    rw [if_neg (by decide), if_neg (by decide), if_neg (by decide), if_pos (by decide), q_gI, q_O_get, q_O_O, q_V36, q_mpush _ (by omega), q_bV]
    exact ⟨_, rfl, q_st_push hs⟩
  | 4, hk =>
    rcases st with _ | ⟨x, st⟩
    · simp at hk
    · simp at hk
      obtain ⟨h1, rfl⟩ := hk
      rw [if_neg (by decide), if_neg (by decide), if_neg (by decide), if_neg (by decide), if_pos (by decide), List.length_cons, q_mpop (by omega), q_bI, hs.1, if_pos (q_inb' ha (by decide)), if_pos (q_inb' ha (by decide)), if_pos (q_and7 x), nI_clamp (show ask < 2 ^ 31 by omega)]
      simp only [q_gA, q_O_get, q_O_O, q_V_r28, q_V_31]
      rw [q_V28, q_mpush _ (by omega), q_bV]
      exact ⟨_, rfl, q_st_push hs.2⟩
  | 5, hk =>
    rcases st with _ | ⟨x, st⟩
    · simp at hk
    · simp at hk
      obtain ⟨h1, rfl⟩ := hk
      rw [if_neg (by decide), if_neg (by decide), if_neg (by decide), if_neg (by decide), if_neg (by decide), if_pos (by decide), q_gI, q_O_get, q_O_O, q_V37, List.length_cons, q_mpop (by omega), q_bI, hs.1, if_pos (q_and15 x), q_O_get, q_V_18, q_mpush _ (by omega), q_bV]
      exact ⟨_, rfl, q_st_push hs.2⟩
  | k + 6, hk =>
    rcases st with _ | ⟨w, _ | ⟨x, st⟩⟩
    · simp at hk
    · simp at hk
    · simp at hk
      obtain ⟨h0, h1, rfl⟩ := hk
      have e1 : f (st.length + 1) = w := hs.1
      have e2 : f st.length = x := hs.2.1
      rcases (show k = 0 ∨ k = 1 ∨ k = 2 ∨ k = 3 ∨ k = 4 by omega) with rfl | rfl | rfl | rfl | rfl
      · rw [if_neg (by decide), if_neg (by decide), if_neg (by decide), if_neg (by decide), if_neg (by decide), if_neg (by decide), if_neg (by decide), if_neg (by decide), if_neg (by decide), if_neg (by decide), List.length_cons, List.length_cons, q_mpop (by omega), q_bI, q_mpop (by omega), q_bI, e1, e2, if_pos (by decide), q_mpush _ (by omega), q_bV]
        exact ⟨_, rfl, q_st_push hs.2.2⟩
      · rw [if_neg (by decide), if_neg (by decide), if_neg (by decide), if_neg (by decide), if_neg (by decide), if_neg (by decide), if_neg (by decide), if_neg (by decide), if_neg (by decide), if_neg (by decide), List.length_cons, List.length_cons, q_mpop (by omega), q_bI, q_mpop (by omega), q_bI, e1, e2, if_neg (by decide), if_pos (by decide), q_mpush _ (by omega), q_bV]
        exact ⟨_, rfl, q_st_push hs.2.2⟩
      · rw [if_neg (by decide), if_neg (by decide), if_neg (by decide), if_neg (by decide), if_neg (by decide), if_neg (by decide), if_neg (by decide), if_neg (by decide), if_neg (by decide), if_neg (by decide), List.length_cons, List.length_cons, q_mpop (by omega), q_bI, q_mpop (by omega), q_bI, e1, e2, if_neg (by decide), if_neg (by decide), if_pos (by decide), q_mpush _ (by omega), q_bV]
        exact ⟨_, rfl, q_st_push hs.2.2⟩
      · rw [if_neg (by decide), if_neg (by decide), if_neg (by decide), if_neg (by decide), if_neg (by decide), if_neg (by decide), if_neg (by decide), if_neg (by decide), if_neg (by decide), if_neg (by decide), List.length_cons, List.length_cons, q_mpop (by omega), q_bI, q_mpop (by omega), q_bI, e1, e2, if_neg (by decide), if_neg (by decide), if_neg (by decide), if_pos (by decide)]
        have ej : (q_op (y.2 18) a b (3 + 6, v) (w :: x :: st) E) = ((if w ≤ x then 0 else 1) :: st, E) := rfl
        rw [ej]
        by_cases h : w ≤ x
        · rw [if_pos h, q_mpush _ (by omega), q_bV, if_pos h]
          exact ⟨_, rfl, q_st_push hs.2.2⟩
        · rw [if_neg h, q_mpush _ (by omega), q_bV, if_neg h]
          exact ⟨_, rfl, q_st_push hs.2.2⟩
      · rw [if_neg (by decide), if_neg (by decide), if_neg (by decide), if_neg (by decide), if_neg (by decide), if_neg (by decide), if_neg (by decide), if_neg (by decide), if_neg (by decide), if_neg (by decide), List.length_cons, List.length_cons, q_mpop (by omega), q_bI, q_mpop (by omega), q_bI, e1, e2, if_neg (by decide), if_neg (by decide), if_neg (by decide), if_neg (by decide)]
        have ej : (q_op (y.2 18) a b (4 + 6, v) (w :: x :: st) E) = ((if x = w then 1 else 0) :: st, E) := rfl
        rw [ej]
        by_cases h : x = w
        · rw [if_pos h, q_mpush _ (by omega), q_bV, if_pos h]
          exact ⟨_, rfl, q_st_push hs.2.2⟩
        · rw [if_neg h, q_mpush _ (by omega), q_bV, if_neg h]
          exact ⟨_, rfl, q_st_push hs.2.2⟩
theorem q_mops (ha : ask < 30) {t N : Nat} (ht : t < 8) (hN : y.2 14 t = nI N) (hN5 : N ≤ 500) {a b : Int32} (hb : y.2 21 ask = b) : ∀ (ops : List (Nat × Nat)) (p n d : Nat) (st : List Int32) (E : zLS) (f : Nat → Int32), q_spMO (y.2 12) (y.2 13) (500 * t) p ops → q_deps ops st.length = some d → q_st f st → p + ops.length ≤ N →
    ∃ f', z_run zM_X5_does zc_X5_does zk_X5_does (n + ops.length) 121 [(0, .inr (.inl (3, 0, 0))), (2, .inl (nI ask)), (3, .inl (nI t)), (4, .inl a), (6, .inl (nI p))] (q_O g 3 0 (q_V y ask f fl dn st.length E)) (0, 0) = z_run zM_X5_does zc_X5_does zk_X5_does n 121 [(0, .inr (.inl (3, 0, 0))), (2, .inl (nI ask)), (3, .inl (nI t)), (4, .inl a), (6, .inl (nI (p + ops.length)))] (q_O g 3 0 (q_V y ask f' fl dn d (q_ops (y.2 18) a b ops st E).2)) (0, 0) ∧ q_st f' (q_ops (y.2 18) a b ops st E).1 ∧ (q_ops (y.2 18) a b ops st E).1.length = d
  | [], p, n, d, st, E, f, _, hd, hs, _ => by
    have e : st.length = d := Option.some.inj hd
    subst e
    exact ⟨f, rfl, hs, rfl⟩
  | o :: ops, p, n, d, st, E, f, hsp, hd, hs, hp => by
    obtain ⟨k, v⟩ := o
    simp only [List.length_cons] at hp
    cases hq : q_dep k st.length with
    | none => simp [q_deps, hq] at hd
    | some d1 =>
      have hd1 : q_deps ops d1 = some d := by simpa [q_deps, hq] using hd
      obtain ⟨f1, e1, s1⟩ := q_mop (y := y) (E := E) (g := g) (fl := fl) (dn := dn) (n := n + ops.length) (a := a) ha ht hN hN5 (show p < N by omega) hsp.1.1 hsp.1.2 hb hs hq
      have hl := q_op_len (kept := y.2 18) (a := a) (b := b) (o := (k, v)) (E := E) hq
      obtain ⟨f2, e2, s2, l2⟩ := q_mops ha ht hN hN5 hb ops (p + 1) n d (q_op (y.2 18) a b (k, v) st E).1 (q_op (y.2 18) a b (k, v) st E).2 f1 hsp.2 (by rw [hl]; exact hd1) s1 (by omega)
      refine ⟨f2, ?_, s2, l2⟩
      rw [hl] at e2
      rw [show n + ((k, v) :: ops).length = (n + ops.length) + 1 from rfl, e1, e2, show p + ((k, v) :: ops).length = p + 1 + ops.length by simp only [List.length_cons]; omega]
      rfl
end Vr
