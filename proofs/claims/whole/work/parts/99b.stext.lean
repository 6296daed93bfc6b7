/-! ===== pure part: text ===== -/
section Mc
variable {g : zSG} {y : zLS} {S T : Nat → Int32}
def q_c (y : zLS) (S T : Nat → Int32) : zLS := (y.1, va_up (va_up y.2 12 S) 13 T)
theorem q_c1 : (q_c y S T).1 = y.1 := rfl
theorem q_c10 : (q_c y S T).2 10 = y.2 10 := rfl
theorem q_c11 : (q_c y S T).2 11 = y.2 11 := rfl
theorem q_c12 : (q_c y S T).2 12 = S := rfl
theorem q_c13 : (q_c y S T).2 13 = T := rfl
theorem q_cS (S' T' : Nat → Int32) : ((q_c y S T).1, va_up (va_up (q_c y S T).2 12 S') 13 T') = q_c y S' T' := by
  refine Prod.ext rfl (funext fun k => ?_)
  by_cases h : k = 13
  · simp [q_c, va_up, h]
  · by_cases h2 : k = 12 <;> simp [q_c, va_up, h, h2]
theorem q_c_self : q_c y (y.2 12) (y.2 13) = y := by
  refine Prod.ext rfl (funext fun k => ?_)
  by_cases h : k = 13
  · simp [q_c, va_up, h]
  · by_cases h2 : k = 12 <;> simp [q_c, va_up, h, h2]
theorem q_M157 {t c : Nat} (ht : t < 8) (hc : c ≤ 500) (h5 : y.1 5 = nI c) : ∀ (m k N : Nat) (S T : Nat → Int32), k + m = c → m < N → ∃ S' T', z_run zM_X5_text zc_X5_text zk_X5_text N 157 [(0, .inr (.inl (3, 0, 0))), (4, .inl (nI t)), (5, .inl (nI k))] (q_O g 3 0 (q_c y S T)) (0, 0) = some (.inl (some (.inl (y.1 6))), q_O g 3 0 (y.1, va_up (va_up (va_up (va_up y.2 12 S') 13 T') 14 (upd (y.2 14) t (nI c))) 15 (upd (y.2 15) t (y.1 6)))) ∧ (∀ i, k ≤ i → i < c → S' (500 * t + i) = y.2 10 i ∧ T' (500 * t + i) = y.2 11 i) ∧ ∀ j, (j < 500 * t + k ∨ 500 * t + 500 ≤ j) → S' j = S j ∧ T' j = T j := by
  intro m
  induction m with
  | zero =>
    intro k N S T hk hN
    obtain ⟨N, rfl⟩ : ∃ N', N = N' + 1 := ⟨N - 1, by omega⟩
    refine ⟨S, T, ?_, fun i h1 h2 => absurd h2 (by omega), fun _ _ => ⟨rfl, rfl⟩⟩
    rw [zu_X5_text_157, q_O_get, q_c1, h5, if_pos (nI_le (by omega) (by omega)), if_pos (q_inb' ht (by decide)), if_pos (q_inb' ht (by decide)), nI_clamp (by omega)]
    simp only [q_gA, q_O_get, q_O_O]
    rfl
  | succ m ih =>
    intro k N S T hk hN
    obtain ⟨N, rfl⟩ : ∃ N', N = N' + 1 := ⟨N - 1, by omega⟩
    have e5 : (500 : Int32) * nI t + nI k = nI (500 * t + k) := by rw [show (500 : Int32) = nI 500 from rfl, pk_mul, nI_add]
    have i5 : z_inb (nI k) 500 := q_inb' (by omega) (by decide)
    have i4 : z_inb (nI (500 * t + k)) 4000 := q_inb' (by omega) (by decide)
    obtain ⟨S', T', e, a, b⟩ := ih (k + 1) N (upd S (500 * t + k) (y.2 10 k)) (upd T (500 * t + k) (y.2 11 k)) (by omega) (by omega)
    refine ⟨S', T', ?_, fun i h1 h2 => ?_, fun j hj => ?_⟩
    · rw [zu_X5_text_157, q_O_get, q_c1, h5, if_neg (nI_ge (by omega) (by omega)), e5, if_pos i5, if_pos i4, if_pos i5, if_pos i4, nI_clamp (show k < 2 ^ 31 by omega), nI_clamp (show 500 * t + k < 2 ^ 31 by omega), nI_1]
      simp only [q_gA, q_O_get, q_O_O, q_c10, q_c11, q_c12, q_c13, q_cS]
      exact e
    · by_cases h : i = k
      · subst h
        have := b (500 * t + i) (Or.inl (by omega))
        rw [this.1, this.2]
        exact ⟨pk_us, pk_us⟩
      · exact a i (by omega) h2
    · have := b j (by omega)
      rw [this.1, this.2, pk_un (by omega), pk_un (by omega)]
      exact ⟨rfl, rfl⟩
end Mc
theorem q_spMO_sh {f f' f2 f2' : Nat → Int32} {b : Nat} : ∀ (l : List (Nat × Nat)) (p : Nat), (∀ i, p ≤ i → i < p + l.length → f' (b + i) = f i ∧ f2' (b + i) = f2 i) → q_spMO f f2 0 p l → q_spMO f' f2' b p l
  | [], _, _, _ => trivial
  | o :: r, p, h, h' => by
    have h0 := h p (Nat.le_refl _) (by simp)
    have h1 := h'.1
    rw [Nat.zero_add] at h1
    exact ⟨⟨h0.1.trans h1.1, h0.2.trans h1.2⟩, q_spMO_sh r (p + 1) (fun i h1 h2 => h i (by omega) (by simp only [List.length_cons]; omega)) h'.2⟩
theorem q_spM_sh {f f' f2 f2' : Nat → Int32} {b : Nat} : ∀ (l : List qIt) (i p : Nat), (∀ j, p ≤ j → j < p + q_lm l → f' (b + j) = f j ∧ f2' (b + j) = f2 j) → q_spM f f2 0 i p l → q_spM f' f2' b i p l
  | [], _, _, _, _ => trivial
  | it :: r, i, p, h, h' => by
    rw [q_lm] at h
    have h0 := h p (Nat.le_refl _) (by omega)
    have h1 := h (p + 1 + it.2.1.length) (by omega) (by omega)
    obtain ⟨k1, k2, k3, k4, k5⟩ := h'
    rw [Nat.zero_add] at k1 k3 k4
    exact ⟨⟨h0.1.trans k1.1, h0.2.trans k1.2⟩, q_spMO_sh it.2.1 (p + 1) (fun j h2 h3 => h j (by omega) (by omega)) k2, h1.1.trans k3, fun e => h1.2.trans (k4 e), q_spM_sh r (i + 1) _ (fun j h2 h3 => h j (by omega) (by omega)) k5⟩
/-- the new script of slot t -/
def zX_scr (g : zSG) (t : Nat) : zSG := q_O g 5 t (upd (upd (fun _ => 0) 0 ((g 1 0).1 4)) 1 ((g 1 0).1 5), fun _ => (g 1 0).2 0)
def zX_text : List zVV → zSG → Option zRR
  | [.inr (.inl (0, 0, 0)), .inl x1, .inl x2, .inl x3], g => z_bV (zF_X4_checkVersion [.inl x1] g) (fun g1 => z_bV (zF_X4_checkKind [.inl x2] g1) (fun g2 => if x3 < 0 then some (.inr 0, g2) else if (g2 0 0).1 12 < x3 then some (.inr 0, g2) else z_bI (zF_X1_understands [.inr (.inl (1, 0, 0)), .inr (.inl (0, 0, 1)), .inl x3] (z_gI g2 0 0 12 0)) (fun b g3 => if b = 0 then z_bI (zF_X1_place [.inr (.inl (1, 0, 0))] g3) (fun q g4 => some (.inl (some (.inl ((-2 : Int32) - q))), g4)) else if z_inb ((g3 1 0).1 4) 400 then z_bV (zF_X4_forgetRuns [.inr (.inl (0, 0, 0))] (zX_scr g3 (x1 * 4 + x2).toNatClampNeg)) (fun g5 => some (.inl (some (.inl ((g3 1 0).1 5))), g5)) else none)))
  | _, _ => none
theorem zX_text_eq (x1 x2 x3 : Int32) (g : zSG) : zX_text [.inr (.inl (0, 0, 0)), .inl x1, .inl x2, .inl x3] g = z_bV (zF_X4_checkVersion [.inl x1] g) (fun g1 => z_bV (zF_X4_checkKind [.inl x2] g1) (fun g2 => if x3 < 0 then some (.inr 0, g2) else if (g2 0 0).1 12 < x3 then some (.inr 0, g2) else z_bI (zF_X1_understands [.inr (.inl (1, 0, 0)), .inr (.inl (0, 0, 1)), .inl x3] (z_gI g2 0 0 12 0)) (fun b g3 => if b = 0 then z_bI (zF_X1_place [.inr (.inl (1, 0, 0))] g3) (fun q g4 => some (.inl (some (.inl ((-2 : Int32) - q))), g4)) else if z_inb ((g3 1 0).1 4) 400 then z_bV (zF_X4_forgetRuns [.inr (.inl (0, 0, 0))] (zX_scr g3 (x1 * 4 + x2).toNatClampNeg)) (fun g5 => some (.inl (some (.inl ((g3 1 0).1 5))), g5)) else none))) := rfl
def q_rM (y : zLS) (n : Nat) : zLS := (upd (upd (upd y.1 0 0) 1 0) 2 (nI n), y.2)
theorem q_rM_m (y : zLS) (n : Nat) (g : zSG) (hy : g 3 0 = y) : z_gI (z_gI (z_gI (z_gI (z_gI (z_gI (z_gI (z_gI (z_gI g 3 0 0 (0 : Int32)) 3 0 1 (0 : Int32)) 3 0 2 (nI n)) 3 0 3 (0 : Int32)) 3 0 4 (-1 : Int32)) 3 0 5 (0 : Int32)) 3 0 6 (0 : Int32)) 3 0 7 (0 : Int32)) 3 0 8 (0 : Int32) = q_O g 3 0 (q_m (q_rM y n) (nI 0) (-1) (nI 0) (nI 0) (0 : Int32) (0 : Int32) (y.2 10) (y.2 11)) := by
  simp only [q_gI, q_O_get, q_O_O, hy]
  refine congrArg (q_O g 3 0) ?_
  refine Prod.ext rfl ?_
  show y.2 = va_up (va_up y.2 10 (y.2 10)) 11 (y.2 11)
  funext k
  by_cases h : k = 11
  · simp [va_up, h]
  · by_cases h2 : k = 10 <;> simp [va_up, h, h2]
/-- the reference reads a text -/
theorem q_Mtext {B : Nat → Nat} {n v kd : Nat} {g : zSG} {y : zLS} (hy : g 3 0 = y) (hv : v < 2) (hk : kd < 4) (hn : n ≤ 400) (hB : ∀ i, i < n → B i < 256 ∧ y.2 9 i = nI (B i)) {tp : Nat} (htp : y.1 1 = nI tp) (hnt : n ≤ tp) (ht4 : tp ≤ 400) : q_okU g (q_rM y n) (nI v) (nI kd) (zF_X5_text [.inr (.inl (3, 0, 0)), .inl (nI v), .inl (nI kd), .inl (nI n)] g) (q_txt B n) := by
  have hrd : q_rdM B n (q_rM y n) := ⟨hn, hB, rfl⟩
  have h1 : (z_gI g 3 0 0 (0 : Int32) 3 0).1 1 = nI tp := by
    rw [q_gI, q_O_get, hy]
    exact htp
  rw [(ze_X5_text (nI v) (nI kd) (nI n) g).trans (zu_X5_text_0 99999 (nI v) (nI kd) (nI n) g), q_wn_ok (hi := (1 : Int32)) (m := 1) rfl (by omega) (by decide), q_bI, if_neg (by decide), q_wn_ok (hi := (3 : Int32)) (m := 3) rfl (by omega) (by decide), q_bI, if_neg (by decide), if_neg (nI_pos (by omega)), h1, if_neg (nI_nlt hnt (by omega)), q_may1 (q_t0 _ _), q_bI, if_neg (by decide)]
  rw [show (99999 : Nat) = 99998 + 1 from rfl, zu_X5_text_50, q_rM_m y n g hy, q_mhere hrd (Nat.zero_le _), q_bI]
  have hm := q_M95 (g := g) hrd (x1 := nI v) (x2 := nI kd) 31 (q_skp B n 0) 0 99998 [] (y.2 10) (y.2 11) (by omega) (by omega) (q_skp_le (by omega)) (q_skp_skp 0) (Nat.zero_le _) (Nat.le_refl _) (by decide) trivial trivial
  rw [q_lp_skp] at hm
  unfold q_txt
  rw [q_stk_lv]
  exact hm
