/-! ===== pure part: the reference reads terms, sums, comparisons ===== -/
def q_okM (g : zSG) (r : zLS) (c : Nat) (s w o : Int32) (fc fn : Nat → Int32) (out : Option zRR) : qRes → Prop
  | .inl q => ∃ p' c' s' w' o' fc' fn', out = some (.inl none, q_O g 3 0 (q_m r p' (nI q) c' s' w' o' fc' fn'))
  | .inr (q, l) => ∃ fc' fn', out = some (.inl none, q_O g 3 0 (q_m r (nI q) (-1) (nI (c + l.length)) s w o fc' fn')) ∧ q_spMO fc' fn' 0 c l ∧ ∀ i, i < c → fc' i = fc i ∧ fn' i = fn i
theorem q_spMO_app {f f2 : Nat → Int32} {b : Nat} : ∀ (l l' : List (Nat × Nat)) (p : Nat), q_spMO f f2 b p l → q_spMO f f2 b (p + l.length) l' → q_spMO f f2 b p (l ++ l')
  | [], l', p, _, h => by simpa using h
  | o :: r, l', p, h, h' => by
    refine ⟨h.1, q_spMO_app r l' (p + 1) h.2 ?_⟩
    rw [List.length_cons] at h'
    rw [show p + 1 + r.length = p + (r.length + 1) by omega]
    exact h'
theorem q_spMO_cong {f f' f2 f2' : Nat → Int32} {b : Nat} : ∀ (l : List (Nat × Nat)) (p : Nat), (∀ i, p ≤ i → i < p + l.length → f' (b + i) = f (b + i) ∧ f2' (b + i) = f2 (b + i)) → q_spMO f f2 b p l → q_spMO f' f2' b p l
  | [], _, _, _ => trivial
  | o :: r, p, h, h' => by
    have h0 := h p (Nat.le_refl _) (by simp)
    exact ⟨⟨h0.1.trans h'.1.1, h0.2.trans h'.1.2⟩, q_spMO_cong r (p + 1) (fun i h1 h2 => h i (by omega) (by simp only [List.length_cons]; omega)) h'.2⟩
theorem q_zP5_0 (d : Nat) (g : zSG) : zP5 (d + 1) 0 [.inr (.inl (3, 0, 0))] g = z_run (zM_X5_simple (zP5 d)) zc_X5_simple zk_X5_simple 100000 0 [(0, .inr (.inl (3, 0, 0)))] g (0, 0) := by
  rw [zP5_0]
  exact z_fn_ok (sh := zs_X5_simple) (vs := [.inr (.inl (3, 0, 0))]) rfl rfl
theorem q_zP5_1 (d : Nat) (g : zSG) : zP5 (d + 1) 1 [.inr (.inl (3, 0, 0))] g = z_run (zM_X5_row (zP5 d)) zc_X5_row zk_X5_row 100000 0 [(0, .inr (.inl (3, 0, 0)))] g (0, 0) := by
  rw [zP5_1]
  exact z_fn_ok (sh := zs_X5_row) (vs := [.inr (.inl (3, 0, 0))]) rfl rfl
theorem q_zP5_2 (d : Nat) (g : zSG) : zP5 (d + 1) 2 [.inr (.inl (3, 0, 0))] g = z_run (zM_X5_whole (zP5 d)) zc_X5_whole zk_X5_whole 100000 0 [(0, .inr (.inl (3, 0, 0)))] g (0, 0) := by
  rw [zP5_2]
  exact z_fn_ok (sh := zs_X5_whole) (vs := [.inr (.inl (3, 0, 0))]) rfl rfl
section Mt
variable {B : Nat → Nat} {n : Nat} {g : zSG} {r : zLS} {s w o : Int32} {fc fn : Nat → Int32}
theorem q_mdigs4 (h : q_rdM B n r) {c : Nat} (hc : c < 500) : ∀ (m p k N v : Nat), m + k = 6 → m + 1 < N → v < 10 ^ k → p ≤ n → q_okM g r c s w o fc fn (z_run zM_X5_digits zc_X5_digits zk_X5_digits N 4 [(0, .inr (.inl (3, 0, 0))), (1, .inl (nI v)), (2, .inl (nI k))] (q_O g 3 0 (q_m r (nI p) (-1) (nI c) s w o fc fn)) (0, 0)) (q_dg B n m p v) := by
  have hn := h.1
  have hB := fun i hi => (h.2.1 i hi).1
  have fin : ∀ p v : Nat, q_okM g r c s w o fc fn (z_bI (zF_X5_fine [.inr (.inl (3, 0, 0))] (q_O g 3 0 (q_m r (nI p) (-1) (nI c) s w o fc fn))) (fun r7 g6 => (if r7 = 0 then some (.inl none, g6) else (z_bV (zF_X5_emit [.inr (.inl (3, 0, 0)), .inl (0 : Int32), .inl (nI v)] g6) (fun g8 => some (.inl none, g8)))))) (.inr (p, [(0, v)])) := by
    intro p v
    rw [q_mfine1, q_bI, if_neg (by decide), q_memit hc, q_bV]
    refine ⟨_, _, rfl, ⟨⟨?_, ?_⟩, trivial⟩, fun i hi => ⟨pk_un (by omega), pk_un (by omega)⟩⟩
    · rw [Nat.zero_add]
      exact pk_us
    · rw [Nat.zero_add]
      exact pk_us
  have stop : ∀ (m p v : Nat), q_dgt B n p = false → q_dg B n m p v = .inr (p, [(0, v)]) := by
    intro m p v hd
    cases m <;> rw [q_dg, hd, if_neg (by decide)]
  intro m
  induction m with
  | zero =>
    intro p k N v hk hN hv hp
    obtain ⟨N, rfl⟩ : ∃ N', N = N' + 1 + 1 := ⟨N - 2, by omega⟩
    have e : k = 6 := by omega
    subst e
    rw [zu_X5_digits_4, q_mfine1, q_bI, if_neg (by decide), q_O_get, q_m2, q_m3, h.2.2]
    by_cases hpn : n ≤ p
    · rw [if_pos (nI_le hpn (by omega)), stop 0 p v (by unfold q_dgt; simp; omega)]
      exact fin p v
    · have hs := q_mdig hB p (q_O g 3 0 (q_m r (nI p) (-1) (nI c) s w o fc fn))
      unfold q_hv at hs
      rw [if_pos (by omega)] at hs
      rw [if_neg (nI_ge (by omega) (by omega)), if_pos (q_inb' (show p < 400 by omega) (by decide)), nI_clamp (by omega), q_m9r, (h.2.1 p (by omega)).2, hs, q_bI]
      cases hd : q_dgt B n p with
      | false =>
        rw [if_pos (by decide), stop 0 p v hd]
        exact fin p v
      | true =>
        rw [if_neg (by decide), if_pos (show nI 6 = (6 : Int32) from rfl), q_O_get, q_m3, q_mwrong, q_bV, q_dg, hd, if_pos rfl, zu_X5_digits_4, q_mfine0 (q_nI_m1 (by omega)), q_bI, if_pos rfl, q_mfine0 (q_nI_m1 (by omega)), q_bI, if_pos rfl]
        exact ⟨_, _, _, _, _, _, _, rfl⟩
  | succ m ih =>
    intro p k N v hk hN hv hp
    obtain ⟨N, rfl⟩ : ∃ N', N = N' + 1 := ⟨N - 1, by omega⟩
    have hk6 : 10 ^ k ≤ 10 ^ 6 := Nat.pow_le_pow_right (by decide) (by omega)
    rw [zu_X5_digits_4, q_mfine1, q_bI, if_neg (by decide), q_O_get, q_m2, q_m3, h.2.2]
    by_cases hpn : n ≤ p
    · rw [if_pos (nI_le hpn (by omega)), stop (m + 1) p v (by unfold q_dgt; simp; omega)]
      exact fin p v
    · have hs := q_mdig hB p (q_O g 3 0 (q_m r (nI p) (-1) (nI c) s w o fc fn))
      unfold q_hv at hs
      rw [if_pos (by omega)] at hs
      have hi := q_inb' (show p < 400 by omega) (by decide)
      rw [if_neg (nI_ge (by omega) (by omega)), if_pos hi, nI_clamp (by omega), q_m9r, (h.2.1 p (by omega)).2, hs, q_bI]
      cases hd : q_dgt B n p with
      | false =>
        rw [if_pos (by decide), stop (m + 1) p v hd]
        exact fin p v
      | true =>
        obtain ⟨h1, h2, h3⟩ := q_dgt_lt hd
        have ev : (10 : Int32) * nI v + nI (B p) - (48 : Int32) = nI (v * 10 + (B p - 48)) := by
          rw [show (10 : Int32) = nI 10 from rfl, pk_mul, nI_add, show (48 : Int32) = nI 48 from rfl, pk_sub (by omega), show 10 * v + B p - 48 = v * 10 + (B p - 48) by omega]
        rw [if_neg (by decide), if_neg (show ¬ nI k = (6 : Int32) from fun hx => by have := (nI_eq (b := 6) (by omega) (by decide)).mp hx; omega), q_O_get, q_m3, if_pos hi, nI_clamp (by omega), q_m9r, (h.2.1 p (by omega)).2, ev, nI_1, q_gI, q_O_get, q_O_O, nI_1, q_m3s, q_dg, hd, if_pos rfl]
        refine ih (p + 1) (k + 1) N _ (by omega) (by omega) ?_ (by omega)
        rw [Nat.pow_succ]
        omega
theorem q_mdigs (h : q_rdM B n r) {c p : Nat} (hc : c < 500) (hp : p ≤ n) : q_okM g r c s w o fc fn (zF_X5_digits [.inr (.inl (3, 0, 0))] (q_O g 3 0 (q_m r (nI p) (-1) (nI c) s w o fc fn))) (q_dg B n 6 p 0) := by
  rw [(ze_X5_digits _).trans (zu_X5_digits_0 99999 _)]
  exact q_mdigs4 h hc 6 p 0 99999 0 rfl (by decide) (by decide) hp
def q_MF (B : Nat → Nat) (n : Nat) (g : zSG) (r : zLS) (F : List zVV → zSG → Option zRR) (o : Int32) (T : Nat → qRes) : Prop := ∀ p c s w fc fn, p ≤ n → c ≤ p → q_okM g r c s w o fc fn (F [.inr (.inl (3, 0, 0))] (q_O g 3 0 (q_m r (nI p) (-1) (nI c) s w o fc fn))) (T p)
def q_rowb (P : Nat → List zVV → zSG → Option zRR) (N : Nat) (r6 : Int32) (g5 : zSG) : Option zRR := (z_bV ((P 0) [.inr (.inl (3, 0, 0))] (z_gI g5 3 0 3 (((g5 3 0).1 3) + (1 : Int32)))) (fun g7 => (z_bI (zF_X5_fine [.inr (.inl (3, 0, 0))] g7) (fun r9 g8 => (if r9 = 0 then z_run (zM_X5_row P) zc_X5_row zk_X5_row N 4 [(0, .inr (.inl (3, 0, 0)))] g8 (0, 0) else (if r6 = (43 : Int32) then (z_bV (zF_X5_emit [.inr (.inl (3, 0, 0)), .inl (6 : Int32), .inl (0 : Int32)] g8) (fun g12 => z_run (zM_X5_row P) zc_X5_row zk_X5_row N 4 [(0, .inr (.inl (3, 0, 0)))] g12 (0, 0))) else (if r6 = (45 : Int32) then (z_bV (zF_X5_emit [.inr (.inl (3, 0, 0)), .inl (7 : Int32), .inl (0 : Int32)] g8) (fun g11 => z_run (zM_X5_row P) zc_X5_row zk_X5_row N 4 [(0, .inr (.inl (3, 0, 0)))] g11 (0, 0))) else (z_bV (zF_X5_emit [.inr (.inl (3, 0, 0)), .inl (8 : Int32), .inl (0 : Int32)] g8) (fun g10 => z_run (zM_X5_row P) zc_X5_row zk_X5_row N 4 [(0, .inr (.inl (3, 0, 0)))] g10 (0, 0))))))))))
theorem q_Mrow4 (h : q_rdM B n r) {P : Nat → List zVV → zSG → Option zRR} {T : Nat → qRes} (hF : q_MF B n g r (P 0) o T) (hT : q_TG n T) {c : Nat} : ∀ (m p k N p0 : Nat) (acc : List (Nat × Nat)) (f1 f2 : Nat → Int32), k + m = 400 → m + 1 < N → p ≤ n → c ≤ p0 → p0 + acc.length ≤ p → k < acc.length → q_spMO f1 f2 0 c acc → (∀ i, i < c → f1 i = fc i ∧ f2 i = fn i) →
    q_okM g r c s w o fc fn (z_run (zM_X5_row P) zc_X5_row zk_X5_row N 4 [(0, .inr (.inl (3, 0, 0)))] (q_O g 3 0 (q_m r (nI p) (-1) (nI (c + acc.length)) s w o f1 f2)) (0, 0)) (q_sm B n T m p acc) := by
  have hn := h.1
  have hB := fun i hi => (h.2.1 i hi).1
  intro m
  induction m with
  | zero =>
    intro p k N p0 acc f1 f2 hk hN hp h0 h1 h2
    omega
  | succ m ih =>
    intro p k N p0 acc f1 f2 hk hN hp h0 h1 h2 h3 h4
    obtain ⟨N, rfl⟩ : ∃ N', N = N' + 1 := ⟨N - 1, by omega⟩
    have hq := q_skp_ge (B := B) (n := n) p
    have hqn := q_skp_le (B := B) hp
    have e1 := q_hv_eq hB (i := q_skp B n p) (c := 43) (by decide) (by decide)
    have e2 := q_hv_eq hB (i := q_skp B n p) (c := 45) (by decide) (by decide)
    have e3 := q_hv_eq hB (i := q_skp B n p) (c := 42) (by decide) (by decide)
    have hh := q_mhere (g := g) (b := -1) (c := nI (c + acc.length)) (s := s) (w := w) (o := o) (fc := f1) (fn := f2) h hqn
    rw [q_skp_skp] at hh
    have blk : ¬ q_jn B n (q_skp B n p) = 0 → q_okM g r c s w o fc fn (q_rowb P N (q_hv B n (q_skp B n p)) (q_O g 3 0 (q_m r (nI (q_skp B n p)) (-1) (nI (c + acc.length)) s w o f1 f2))) (match T (q_skp B n p + 1) with
        | .inl r => .inl r
        | .inr (r, l) => q_sm B n T m r (acc ++ l ++ [(q_jn B n (q_skp B n p), 0)])) := by
      intro hj
      have hlt : q_skp B n p + 1 ≤ n := by
        rcases q_jn_is (B := B) (n := n) (q_skp B n p) with hj0 | ⟨_, _, hj3⟩
        · exact absurd hj0 hj
        · omega
      unfold q_rowb
      rw [q_gI, q_O_get, q_O_O, q_m3, nI_1, q_m3s]
      have hf := hF (q_skp B n p + 1) (c + acc.length) s w f1 f2 hlt (by omega)
      have hg := hT (q_skp B n p + 1) hlt
      revert hf hg
      cases T (q_skp B n p + 1) with
      | inl q =>
        rintro ⟨p', c', s', w', o', fc', fn', e⟩ ⟨g1, g2⟩
        obtain ⟨N, rfl⟩ : ∃ N', N = N' + 1 := ⟨N - 1, by omega⟩
        have hb := q_nI_m1 (c := q) (by omega)
        rw [e, q_bV, q_mfine0 hb, q_bI, if_pos rfl, zu_X5_row_4, q_mfine0 hb, q_bI, if_pos rfl]
        exact ⟨_, _, _, _, _, _, _, rfl⟩
      | inr y =>
        obtain ⟨q, l⟩ := y
        rintro ⟨f3, f4, e, s2, b2⟩ ⟨g1, g2, g3⟩
        rw [e, q_bV, q_mfine1, q_bI, if_neg (by decide)]
        have last : ∀ j : Nat, q_okM g r c s w o fc fn (z_bV (zF_X5_emit [.inr (.inl (3, 0, 0)), .inl (nI j), .inl (0 : Int32)] (q_O g 3 0 (q_m r (nI q) (-1) (nI (c + acc.length + l.length)) s w o f3 f4))) (fun g12 => z_run (zM_X5_row P) zc_X5_row zk_X5_row N 4 [(0, .inr (.inl (3, 0, 0)))] g12 (0, 0))) (q_sm B n T m q (acc ++ l ++ [(j, 0)])) := by
          intro j
          have hlen : c + acc.length + l.length + 1 = c + (acc ++ l ++ [(j, 0)]).length := by simp only [List.length_append, List.length_cons, List.length_nil]; omega
          have hll : (acc ++ l ++ [(j, 0)]).length = acc.length + l.length + 1 := by simp only [List.length_append, List.length_cons, List.length_nil]
          rw [q_memit (by omega), q_bV, hlen]
          refine ih q (k + 1) N p0 _ _ _ (by omega) (by omega) g1 h0 (by omega) (by omega) ?_ (fun i hi => ?_)
          · refine q_spMO_app _ _ c (q_spMO_app _ _ c ?_ ?_) ?_
            · refine q_spMO_cong acc c (fun i h5 h6 => ?_) h3
              rw [pk_un (by omega), pk_un (by omega)]
              have := b2 (0 + i) (by omega)
              exact this
            · refine q_spMO_cong l (c + acc.length) (fun i h5 h6 => ⟨pk_un (by omega), pk_un (by omega)⟩) s2
            · refine ⟨⟨?_, ?_⟩, trivial⟩
              · rw [List.length_append, show 0 + (c + (acc.length + l.length)) = c + acc.length + l.length by omega]
                exact pk_us
              · rw [List.length_append, show 0 + (c + (acc.length + l.length)) = c + acc.length + l.length by omega]
                exact pk_us
          · rw [pk_un (by omega), pk_un (by omega), (b2 i (by omega)).1, (b2 i (by omega)).2]
            exact h4 i hi
        dsimp only
        unfold q_jn
        by_cases c1 : q_chr B n (q_skp B n p) 43 = true
        · rw [if_pos (show q_hv B n (q_skp B n p) = (43 : Int32) from e1.mpr c1), if_pos c1]
          exact last 6
        · rw [if_neg (show ¬ q_hv B n (q_skp B n p) = (43 : Int32) from fun hx => c1 (e1.mp hx)), if_neg c1]
          by_cases c2 : q_chr B n (q_skp B n p) 45 = true
          · rw [if_pos (show q_hv B n (q_skp B n p) = (45 : Int32) from e2.mpr c2), if_pos c2]
            exact last 7
          · rw [if_neg (show ¬ q_hv B n (q_skp B n p) = (45 : Int32) from fun hx => c2 (e2.mp hx)), if_neg c2]
            have c3 : q_chr B n (q_skp B n p) 42 = true := by
              by_cases c3 : q_chr B n (q_skp B n p) 42 = true
              · exact c3
              · refine absurd ?_ hj
                unfold q_jn
                rw [if_neg c1, if_neg c2, if_neg c3]
            rw [if_pos c3]
            exact last 8
    rw [zu_X5_row_4, q_mfine1, q_bI, if_neg (by decide), q_mhere h hp, q_bI]
    simp only [hh, q_bI]
    rw [q_sm]
    by_cases c1 : q_chr B n (q_skp B n p) 43 = true
    · have hj : ¬ q_jn B n (q_skp B n p) = 0 := by unfold q_jn; rw [if_pos c1]; decide
      rw [if_pos (show q_hv B n (q_skp B n p) = (43 : Int32) from e1.mpr c1), if_neg hj]
      exact blk hj
    · rw [if_neg (show ¬ q_hv B n (q_skp B n p) = (43 : Int32) from fun hx => c1 (e1.mp hx))]
      by_cases c2 : q_chr B n (q_skp B n p) 45 = true
      · have hj : ¬ q_jn B n (q_skp B n p) = 0 := by unfold q_jn; rw [if_neg c1, if_pos c2]; decide
        rw [if_pos (show q_hv B n (q_skp B n p) = (45 : Int32) from e2.mpr c2), if_neg hj]
        exact blk hj
      · rw [if_neg (show ¬ q_hv B n (q_skp B n p) = (45 : Int32) from fun hx => c2 (e2.mp hx))]
        by_cases c3 : q_chr B n (q_skp B n p) 42 = true
        · have hj : ¬ q_jn B n (q_skp B n p) = 0 := by unfold q_jn; rw [if_neg c1, if_neg c2, if_pos c3]; decide
          rw [if_pos (show q_hv B n (q_skp B n p) = (42 : Int32) from e3.mpr c3), if_neg hj]
          exact blk hj
        · have hj : q_jn B n (q_skp B n p) = 0 := by unfold q_jn; rw [if_neg c1, if_neg c2, if_neg c3]
          rw [if_neg (show ¬ q_hv B n (q_skp B n p) = (42 : Int32) from fun hx => c3 (e3.mp hx)), if_pos hj]
          exact ⟨f1, f2, rfl, h3, h4⟩
end Mt
