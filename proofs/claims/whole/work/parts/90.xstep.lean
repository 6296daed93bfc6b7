/-! ===== pure part: the program reads statements ===== -/
def q_okI (g : zSG) (r : zLS) (u s : Nat) (f : Nat → Int32) (out : Option zRR) : qRI → Prop
  | .inl q => ∃ u' s' f', out = some (.inl (some (.inl 0)), q_O g 1 0 (q_x r q u' s' f'))
  | .inr (q, its) => ∃ f', out = some (.inl (some (.inl 1)), q_O g 1 0 (q_x r q (u + q_lx its) (s + its.length) f')) ∧ q_spX f' s u its ∧ ∀ i, i < u → f' i = f i
theorem q_zS1_0 (d : Nat) (x1 : Int32) (g : zSG) : zS1 (d + 1) 0 [.inr (.inl (1, 0, 0)), .inl x1] g = z_run (zM_X1_readSteps (zS1 d)) zc_X1_readSteps zk_X1_readSteps 100000 0 [(0, .inr (.inl (1, 0, 0))), (1, .inl x1)] g (0, 0) := by
  rw [zS1_0]
  exact z_fn_ok (sh := zs_X1_readSteps) (vs := [.inr (.inl (1, 0, 0)), .inl x1]) rfl rfl
theorem q_zS1_1 (d : Nat) (x1 : Int32) (g : zSG) : zS1 (d + 1) 1 [.inr (.inl (1, 0, 0)), .inl x1] g = z_run (zM_X1_readStep (zS1 d)) zc_X1_readStep zk_X1_readStep 100000 0 [(0, .inr (.inl (1, 0, 0))), (1, .inl x1)] g (0, 0) := by
  rw [zS1_1]
  exact z_fn_ok (sh := zs_X1_readStep) (vs := [.inr (.inl (1, 0, 0)), .inl x1]) rfl rfl
theorem q_zS1_2 (d : Nat) (x1 x2 : Int32) (g : zSG) : zS1 (d + 1) 2 [.inr (.inl (1, 0, 0)), .inl x1, .inl x2] g = z_run (zM_X1_readWhen (zS1 d)) zc_X1_readWhen zk_X1_readWhen 100000 0 [(0, .inr (.inl (1, 0, 0))), (1, .inl x1), (2, .inl x2)] g (0, 0) := by
  rw [zS1_2]
  exact z_fn_ok (sh := zs_X1_readWhen) (vs := [.inr (.inl (1, 0, 0)), .inl x1, .inl x2]) rfl rfl
theorem q_jmpv {a v : Nat} (ha : a < 512) (hv : v < 1000) : nI a ||| (nI v <<< ((9 : Int32) &&& 31)) = nI (a + 512 * v) := by
  rw [pk_shlN ((9 : Int32) &&& 31) 9 (by decide) (by omega), show v * 2 ^ 9 = 2 ^ 9 * v by omega, fa_or, Nat.or_comm, ← fa_or, fa_or_sum v (show a < 2 ^ 9 by omega), show 2 ^ 9 * v + a = a + 512 * v by omega]
section Xi
variable {B : Nat → Nat} {n : Nat} {g : zSG} {r : zLS}
def q_YF (B : Nat → Nat) (n : Nat) (g : zSG) (r : zLS) (F : List zVV → zSG → Option zRR) (x : Int32) (S : Nat → Nat → qRI) : Prop := ∀ p u s f, p ≤ n → u ≤ p → s ≤ 30 → q_okI g r u s f (F [.inr (.inl (1, 0, 0)), .inl x] (q_O g 1 0 (q_x r p u s f))) (S p s)
theorem q_Xlp (h : q_rd B n g r) {P : Nat → List zVV → zSG → Option zRR} {x : Int32} {St : Nat → Nat → qRI} (hF : q_YF B n g r (P 1) x St) (hG : ∀ p s, p ≤ n → s ≤ 30 → q_gJ n p s (St p s)) (hpos : ∀ p s q its, St p s = .inr (q, its) → 0 < its.length) {u s0 : Nat} {f : Nat → Int32} : ∀ (m p k N p0 : Nat) (acc : List qIt) (f1 : Nat → Int32), k + m = 31 → m < N → p ≤ n → u ≤ p0 → p0 + q_lx acc ≤ p → k ≤ acc.length → s0 + acc.length ≤ 30 → q_wfI acc → q_spX f1 s0 u acc → (∀ i, i < u → f1 i = f i) →
    q_okI g r u s0 f (z_run (zM_X1_readSteps P) zc_X1_readSteps zk_X1_readSteps N 2 [(0, .inr (.inl (1, 0, 0))), (1, .inl x), (2, .inl (nI k))] (q_O g 1 0 (q_x r p (u + q_lx acc) (s0 + acc.length) f1)) (0, 0)) (q_lp B n St m p (s0 + acc.length) acc) := by
  have hn := h.1
  have hB := fun i hi => (h.2.1 i hi).1
  intro m
  induction m with
  | zero =>
    intro p k N p0 acc f1 hk hN hp h0 h1 h2
    omega
  | succ m ih =>
    intro p k N p0 acc f1 hk hN hp h0 h1 h2 h3 hw hs hb
    obtain ⟨N, rfl⟩ : ∃ N', N = N' + 1 := ⟨N - 1, by omega⟩
    have hq := q_skp_ge (B := B) (n := n) p
    have hqn := q_skp_le (B := B) hp
    rw [zu_X1_readSteps_2, if_neg (show ¬ (30 : Int32) < nI k from nI_nlt (a := 30) (b := k) (by omega) (by decide)), q_xskip h hp, q_bV, q_O_get, q_x2, h.2.2.2, q_x3, q_lp]
    by_cases c : n ≤ q_skp B n p
    · rw [if_pos (nI_le c (by omega)), q_11, if_pos (Or.inl c)]
      exact ⟨f1, rfl, hs, hb⟩
    · rw [if_neg (nI_ge (by omega) (by omega)), q_xbyte h (by omega), q_bI]
      have e41 := q_bv_eq hB (i := q_skp B n p) (c := 41) (by decide)
      by_cases c2 : q_chr B n (q_skp B n p) 41 = true
      · rw [if_pos (show q_bv B n (q_skp B n p) = (41 : Int32) from e41.mpr c2), q_11, if_pos (Or.inr (q_chr_lt c2).2)]
        exact ⟨f1, rfl, hs, hb⟩
      · have c3 : ¬ (n ≤ q_skp B n p ∨ B (q_skp B n p) = 41) := by
          rintro (h1 | h1)
          · exact c h1
          · refine c2 ?_
            unfold q_chr
            simp only [Bool.and_eq_true, decide_eq_true_eq]
            exact ⟨by omega, h1⟩
        rw [if_neg (show ¬ q_bv B n (q_skp B n p) = (41 : Int32) from fun hc => c2 (e41.mp hc)), if_neg c3]
        have hf := hF (q_skp B n p) (u + q_lx acc) (s0 + acc.length) f1 hqn (by omega) (by omega)
        have hg := hG (q_skp B n p) (s0 + acc.length) hqn (by omega)
        have hp' := hpos (q_skp B n p) (s0 + acc.length)
        revert hf hg hp'
        cases St (q_skp B n p) (s0 + acc.length) with
        | inl q =>
          rintro ⟨u', s', f', e⟩ - -
          rw [e, q_bI, if_pos rfl, q_00]
          exact ⟨u', s', f', rfl⟩
        | inr y =>
          obtain ⟨q, its⟩ := y
          rintro ⟨f2, e, s2, b2⟩ ⟨g1, g2, g3, g4, g5⟩ hp'
          have h00 := hp' q its rfl
          rw [e, q_bI, if_neg (by decide), nI_1]
          dsimp only
          have e1 : u + q_lx acc + q_lx its = u + q_lx (acc ++ its) := by rw [q_lx_app]; omega
          have e2 : s0 + acc.length + its.length = s0 + (acc ++ its).length := by rw [List.length_append]; omega
          rw [e1, e2]
          exact ih q (k + 1) N p0 (acc ++ its) f2 (by omega) (by omega) g1 h0 (by rw [q_lx_app]; omega) (by rw [List.length_append]; omega) (by omega) (q_wfI_app acc its hw g5) (q_spX_app acc its s0 u hw (q_spX_cong acc s0 u (fun j h1 h2 => b2 j (by omega)) hs) s2) (fun i hi => (b2 i (by omega)).trans (hb i hi))
theorem q_Xsteps (h : q_rd B n g r) {P : Nat → List zVV → zSG → Option zRR} {x : Int32} {St : Nat → Nat → qRI} (hF : q_YF B n g r (P 1) x St) (hG : ∀ p s, p ≤ n → s ≤ 30 → q_gJ n p s (St p s)) (hpos : ∀ p s q its, St p s = .inr (q, its) → 0 < its.length) {p u s : Nat} {f : Nat → Int32} (hp : p ≤ n) (hu : u ≤ p) (hs : s ≤ 30) : q_okI g r u s f (z_run (zM_X1_readSteps P) zc_X1_readSteps zk_X1_readSteps 100000 0 [(0, .inr (.inl (1, 0, 0))), (1, .inl x)] (q_O g 1 0 (q_x r p u s f)) (0, 0)) (q_lp B n St 31 p s []) := by
  show q_okI g r u s f (z_run (zM_X1_readSteps P) zc_X1_readSteps zk_X1_readSteps (99999 + 1) 0 [(0, .inr (.inl (1, 0, 0))), (1, .inl x)] (q_O g 1 0 (q_x r p u s f)) (0, 0)) (q_lp B n St 31 p s [])
  rw [zu_X1_readSteps_0]
  exact q_Xlp h hF hG hpos 31 p 0 99999 p [] f (by omega) (by omega) hp hu (Nat.le_refl _) (Nat.le_refl _) hs trivial trivial (fun i hi => rfl)
/-- the end of put and of say -/
theorem q_Xfin (h : q_rd B n g r) {p u s k : Nat} {f f3 : Nat → Int32} {ops : List (Nat × Nat)} (hk : k = 11 ∨ k = 12) (hp : p ≤ n) (hu : u + ops.length < p) (hs : s < 30) (h3 : q_spO f3 u ops) (hb : ∀ i, i < u → f3 i = f i) : q_okI g r u s f (z_bI (zF_X1_takeSign [.inr (.inl (1, 0, 0)), .inl (59 : Int32)] (q_O g 1 0 (q_x r p (u + ops.length) (s + 1) f3))) (fun r12 g11 => (if r12 = 0 then (if (0 : Int32) = 0 ∨ (0 : Int32) = 1 then some (.inl (some (.inl (0 : Int32))), g11) else none) else (z_bI (zF_X1_lay [.inr (.inl (1, 0, 0)), .inl (nI k), .inl (nI s)] g11) (fun r14 g13 => (if r14 = 0 then (if (0 : Int32) = 0 ∨ (0 : Int32) = 1 then some (.inl (some (.inl (0 : Int32))), g13) else none) else (if (1 : Int32) = 0 ∨ (1 : Int32) = 1 then some (.inl (some (.inl (1 : Int32))), g13) else none))))))) (match q_end B n 59 p with | .inl r => .inl r | .inr r => .inr (r, [(k, ops, 0)])) := by
  have hn := h.1
  have t59 := q_xsign (u := u + ops.length) (s := s + 1) (f := f3) h hp (c := 59) (by decide)
  rw [show zF_X1_takeSign [.inr (.inl (1, 0, 0)), .inl (59 : Int32)] (q_O g 1 0 (q_x r p (u + ops.length) (s + 1) f3)) = _ from t59]
  unfold q_end
  by_cases c : q_chr B n (q_skp B n p) 59 = true
  · rw [if_pos c, if_pos c, q_bI, if_neg (by decide), q_xlay1 (by omega) (by omega) (by omega), q_bI, if_neg (by decide), q_11]
    refine ⟨_, rfl, ⟨q_spO_cong ops u (fun i h1 h2 => pk_un (by omega)) h3, ?_, trivial⟩, fun i hi => ?_⟩
    · dsimp only
      rw [if_neg (by omega)]
      exact pk_us
    · rw [pk_un (by omega)]
      exact hb i hi
  · rw [if_neg c, if_neg c, q_bI, if_pos rfl, q_00]
    exact ⟨_, _, _, rfl⟩
def q_restS (P : Nat → List zVV → zSG → Option zRR) (x1 st : Int32) (g3 : zSG) : Option zRR := (if (6 : Int32) ≤ x1 then (if (0 : Int32) = 0 ∨ (0 : Int32) = 1 then some (.inl (some (.inl (0 : Int32))), g3) else none) else (z_bI (zF_X1_takeWord [.inr (.inl (1, 0, 0)), .inr (.inl (6, 2, 0))] g3) (fun r6 g5 => (if r6 = 0 then (if (0 : Int32) = 0 ∨ (0 : Int32) = 1 then some (.inl (some (.inl (0 : Int32))), g5) else none) else (z_bI ((P 2) [.inr (.inl (1, 0, 0)), .inl x1, .inl st] g5) (fun r8 g7 => (if r8 = 0 then (if (0 : Int32) = 0 ∨ (0 : Int32) = 1 then some (.inl (some (.inl (0 : Int32))), g7) else none) else (if (1 : Int32) = 0 ∨ (1 : Int32) = 1 then some (.inl (some (.inl (1 : Int32))), g7) else none))))))))
theorem q_Xstep (h : q_rd B n g r) {P : Nat → List zVV → zSG → Option zRR} {x1 : Int32} {R : qRI} {p u s : Nat} {f : Nat → Int32} (hp : p ≤ n) (hu : u ≤ p) (hs : s ≤ 30) (hR : s < 30 → q_okI g r u s f (q_restS P x1 (nI s) (q_O g 1 0 (q_x r p u (s + 1) f))) R) : q_okI g r u s f (z_run (zM_X1_readStep P) zc_X1_readStep zk_X1_readStep 100000 0 [(0, .inr (.inl (1, 0, 0))), (1, .inl x1)] (q_O g 1 0 (q_x r p u s f)) (0, 0)) (q_stS B n p s R) := by
  have hn := h.1
  show q_okI g r u s f (z_run (zM_X1_readStep P) zc_X1_readStep zk_X1_readStep (99999 + 1) 0 [(0, .inr (.inl (1, 0, 0))), (1, .inl x1)] (q_O g 1 0 (q_x r p u s f)) (0, 0)) (q_stS B n p s R)
  rw [zu_X1_readStep_0, q_O_get, q_x5]
  unfold q_stS
  by_cases h30 : 30 ≤ s
  · rw [if_neg (show ¬ nI s < (30 : Int32) from nI_nlt (b := 30) h30 (by omega)), if_pos h30, q_00]
    exact ⟨_, _, _, rfl⟩
  · have w0 := q_xword (u := u) (s := s + 1) (f := f) h hp (w := 0) (by decide)
    have w1 := q_xword (u := u) (s := s + 1) (f := f) h hp (w := 1) (by decide)
    rw [show q_ws 0 = [112, 117, 116] from rfl] at w0
    rw [show q_ws 1 = [115, 97, 121] from rfl] at w1
    rw [if_pos (show nI s < (30 : Int32) from nI_lt (b := 30) (by omega) (by decide)), if_neg h30, q_gI, q_O_get, q_O_O, nI_1, q_x5s, w0]
    by_cases c0 : q_wd B n [112, 117, 116] p = true
    · have hl : p + 3 ≤ n := by rcases q_wd_lt _ _ c0 with h | h <;> simp at h <;> omega
      rw [if_pos c0, if_pos c0, q_bI, if_neg (by decide)]
      have hf := q_XS h (p + 3) u (s + 1) f hl (by omega)
      have hg := q_sumT (B := B) (d := 0) hl (by decide)
      rw [show p + [112, 117, 116].length = p + 3 from rfl]
      revert hf hg
      cases q_sum B n (q_pT B n 12) (p + 3) with
      | inl q =>
        rintro ⟨u', f', e⟩ -
        rw [e, q_bI, if_pos rfl, q_00]
        exact ⟨_, _, _, rfl⟩
      | inr y =>
        obtain ⟨q, l⟩ := y
        rintro ⟨f2, e, s2, b2⟩ ⟨g1, g2, g3, -, -⟩
        rw [e, q_bI, if_neg (by decide)]
        dsimp only
        have hf := q_XS h q (u + l.length) (s + 1) f2 g1 (by omega)
        have hg := q_sumT (B := B) (d := 1) g1 (by decide)
        revert hf hg
        cases q_sum B n (q_pT B n 12) q with
        | inl q' =>
          rintro ⟨u', f', e⟩ -
          rw [e, q_bI, if_pos rfl, q_00]
          exact ⟨_, _, _, rfl⟩
        | inr y =>
          obtain ⟨q', l'⟩ := y
          rintro ⟨f3, e, s3, b3⟩ ⟨k1, k2, k3, -, -⟩
          rw [e, q_bI, if_neg (by decide)]
          dsimp only
          have el : u + l.length + l'.length = u + (l ++ l').length := by rw [List.length_append]; omega
          rw [el]
          exact q_Xfin h (k := 11) (Or.inl rfl) k1 (by omega) (by omega) (q_spO_app l l' u (q_spO_cong l u (fun i h1 h2 => b3 i (by omega)) s2) s3) (fun i hi => (b3 i (by omega)).trans (b2 i hi))
    · rw [if_neg c0, if_neg c0, q_bI, if_pos rfl, w1]
      by_cases c1 : q_wd B n [115, 97, 121] p = true
      · have hl : p + 3 ≤ n := by rcases q_wd_lt _ _ c1 with h | h <;> simp at h <;> omega
        rw [if_pos c1, if_pos c1, q_bI, if_neg (by decide)]
        have hf := q_XC h (p + 3) u (s + 1) f hl (by omega)
        have hg := q_cmpT (B := B) hl
        rw [show p + [115, 97, 121].length = p + 3 from rfl]
        revert hf hg
        cases q_cmp B n (q_pT B n 12) (p + 3) with
        | inl q =>
          rintro ⟨u', f', e⟩ -
          rw [e, q_bI, if_pos rfl, q_00]
          exact ⟨_, _, _, rfl⟩
        | inr y =>
          obtain ⟨q, l⟩ := y
          rintro ⟨f2, e, s2, b2⟩ ⟨g1, g2, g3, -, -⟩
          rw [e, q_bI, if_neg (by decide)]
          dsimp only
          exact q_Xfin h (k := 12) (Or.inr rfl) g1 (by omega) (by omega) s2 b2
      · rw [if_neg c1, if_neg c1, q_bI, if_pos rfl]
        exact hR (by omega)
theorem q_Xwhen (h : q_rd B n g r) {P : Nat → List zVV → zSG → Option zRR} {x1 : Int32} {S : Nat → Nat → qRI} (hF : q_YF B n g r (P 0) (x1 + 1) S) (hG : ∀ p s, p ≤ n → s ≤ 30 → q_gJ n p s (S p s)) {p u s : Nat} {f : Nat → Int32} (hp : p ≤ n) (hu : u ≤ p) (hs : s < 30) : q_okI g r u s f (z_run (zM_X1_readWhen P) zc_X1_readWhen zk_X1_readWhen 100000 0 [(0, .inr (.inl (1, 0, 0))), (1, .inl x1), (2, .inl (nI s))] (q_O g 1 0 (q_x r p u (s + 1) f)) (0, 0)) (match q_cmp B n (q_pT B n 12) p with
      | .inl r => .inl r
      | .inr (r, l) => match q_end B n 40 r with
        | .inl r => .inl r
        | .inr r => match S r (s + 1) with
          | .inl r => .inl r
          | .inr (r, body) => match q_end B n 41 r with
            | .inl r => .inl r
            | .inr r => .inr (r, (13, l, body.length) :: body)) := by
  have hn := h.1
  rw [show (100000 : Nat) = 99999 + 1 from rfl, zu_X1_readWhen_0]
  have hf := q_XC h p u (s + 1) f hp hu
  have hg := q_cmpT (B := B) hp
  revert hf hg
  cases q_cmp B n (q_pT B n 12) p with
  | inl q =>
    rintro ⟨u', f', e⟩ -
    rw [e, q_bI, if_pos rfl, q_00]
    exact ⟨_, _, _, rfl⟩
  | inr y =>
    obtain ⟨q, l⟩ := y
    rintro ⟨f2, e, s2, b2⟩ ⟨g1, g2, g3, -, -⟩
    rw [e, q_bI, if_neg (by decide)]
    dsimp only
    have t40 := q_xsign (u := u + l.length) (s := s + 1) (f := f2) h g1 (c := 40) (by decide)
    rw [show zF_X1_takeSign [.inr (.inl (1, 0, 0)), .inl (40 : Int32)] (q_O g 1 0 (q_x r q (u + l.length) (s + 1) f2)) = _ from t40]
    have hq := q_skp_ge (B := B) (n := n) q
    conv => arg 7; unfold q_end
    by_cases c : q_chr B n (q_skp B n q) 40 = true
    · have hl := (q_chr_lt c).1
      have hlay := q_xlay1 (g := g) (r := r) (p := q_skp B n q + 1) (u := u + l.length) (s := s + 1) (f := f2) (k := 13) (v := s) (by decide) (by omega) (by omega)
      rw [if_pos c, if_pos c, q_bI, if_neg (by decide), show zF_X1_lay [.inr (.inl (1, 0, 0)), .inl (13 : Int32), .inl (nI s)] (q_O g 1 0 (q_x r (q_skp B n q + 1) (u + l.length) (s + 1) f2)) = _ from hlay, q_bI, if_neg (by decide)]
      dsimp only
      have hf := hF (q_skp B n q + 1) (u + l.length + 1) (s + 1) (upd f2 (u + l.length) (nI (13 + 16 * s))) (by omega) (by omega) (by omega)
      have hg := hG (q_skp B n q + 1) (s + 1) (by omega) (by omega)
      revert hf hg
      cases S (q_skp B n q + 1) (s + 1) with
      | inl q' =>
        rintro ⟨u', s', f', e⟩ -
        rw [e, q_bI, if_pos rfl, q_00]
        exact ⟨_, _, _, rfl⟩
      | inr y =>
        obtain ⟨q', body⟩ := y
        rintro ⟨f4, e, s4, b4⟩ ⟨k1, k2, k3, k4, k5⟩
        rw [e, q_bI, if_neg (by decide)]
        dsimp only
        have t41 := q_xsign (u := u + l.length + 1 + q_lx body) (s := s + 1 + body.length) (f := f4) h k1 (c := 41) (by decide)
        rw [show zF_X1_takeSign [.inr (.inl (1, 0, 0)), .inl (41 : Int32)] (q_O g 1 0 (q_x r q' (u + l.length + 1 + q_lx body) (s + 1 + body.length) f4)) = _ from t41]
        by_cases c2 : q_chr B n (q_skp B n q') 41 = true
        · have hi : z_inb (nI (u + l.length)) 400 := q_inb' (by omega) (by decide)
          have ev : f4 (u + l.length) = nI (13 + 16 * s) := (b4 _ (by omega)).trans (by first | exact pk_us | rfl)
          rw [if_pos c2, if_pos c2, q_bI, if_neg (by decide)]
          simp only [q_O_get, q_x4, q_xr, q_gA, q_O_O, nI_clamp (show u + l.length < 2 ^ 31 by omega)]
          rw [if_pos hi, if_pos hi, if_pos (Or.inr trivial), ev, q_jmpv (by omega) (by omega), q_x0s]
          refine ⟨upd f4 (u + l.length) (nI (13 + 16 * s + 512 * (u + l.length + 1 + q_lx body))), ?_, ⟨?_, ?_, ?_⟩, fun i hi => ?_⟩
          · rw [q_lx, List.length_cons]
            dsimp only
            rw [show u + l.length + 1 + q_lx body = u + (l.length + 1 + q_lx body) by omega, show s + 1 + body.length = s + (body.length + 1) by omega]
          · exact q_spO_cong l u (fun i h1 h2 => by
              rw [pk_un (by omega), b4 i (by omega), pk_un (by omega)]) s2
          · dsimp only
            rw [if_pos rfl, List.take_length, show 13 + 16 * (s + 32 * (u + l.length + 1 + q_lx body)) = 13 + 16 * s + 512 * (u + l.length + 1 + q_lx body) by omega]
            exact pk_us
          · exact q_spX_cong body (s + 1) _ (fun j h1 h2 => pk_un (by dsimp only at h1; omega)) s4
          · rw [pk_un (by omega), b4 i (by omega), pk_un (by omega)]
            exact b2 i hi
        · rw [if_neg c2, if_neg c2, q_bI, if_pos rfl, q_00]
          exact ⟨_, _, _, rfl⟩
    · rw [if_neg c, if_neg c, q_bI, if_pos rfl, q_00]
      exact ⟨_, _, _, rfl⟩
theorem q_okI_b {u s : Nat} {f : Nat → Int32} {out : Option zRR} {R : qRI} (h : q_okI g r u s f out R) : q_okI g r u s f (z_bI out (fun r8 g7 => (if r8 = 0 then (if (0 : Int32) = 0 ∨ (0 : Int32) = 1 then some (.inl (some (.inl (0 : Int32))), g7) else none) else (if (1 : Int32) = 0 ∨ (1 : Int32) = 1 then some (.inl (some (.inl (1 : Int32))), g7) else none)))) R := by
  cases R with
  | inl q =>
    obtain ⟨u', s', f', e⟩ := h
    rw [e, q_bI, if_pos rfl, q_00]
    exact ⟨_, _, _, rfl⟩
  | inr x =>
    obtain ⟨q, l⟩ := x
    obtain ⟨f', e, h1, h2⟩ := h
    rw [e, q_bI, if_neg (by decide), q_11]
    exact ⟨f', rfl, h1, h2⟩
theorem q_XL (h : q_rd B n g r) : ∀ (w : Nat), w ≤ 6 → ∀ d, 3 * w + 2 ≤ d → q_YF B n g r (zS1 d 0) (nI (6 - w)) (q_lv B n w)
  | 0, hw, d, hd => by
    obtain ⟨d, rfl⟩ : ∃ d', d = d' + 1 + 1 := ⟨d - 2, by omega⟩
    have hst : q_YF B n g r (zS1 (d + 1) 1) (nI (6 - 0)) (fun p s => q_stS B n p s (.inl p)) := fun p u s f hp hu hs => by
      rw [q_zS1_1]
      refine q_Xstep h hp hu hs (fun h30 => ?_)
      unfold q_restS
      rw [if_pos (show (6 : Int32) ≤ nI (6 - 0) by decide), q_00]
      exact ⟨_, _, _, rfl⟩
    intro p u s f hp hu hs
    rw [q_zS1_0, q_lv]
    exact q_Xsteps h hst (fun p s hp hs => q_stS_gI (R := .inl p) hp (fun _ => ⟨Nat.le_refl _, hp⟩)) (fun p s q its he => q_stS_pos (R := .inl p) (fun _ _ hc => by cases hc) he) hp hu hs
  | w + 1, hw, d, hd => by
    obtain ⟨d, rfl⟩ : ∃ d', d = d' + 1 + 1 + 1 := ⟨d - 3, by omega⟩
    have ih := q_XL h w (by omega) d (by omega)
    have ex : nI (6 - (w + 1)) + (1 : Int32) = nI (6 - w) := by rw [nI_1, show 6 - (w + 1) + 1 = 6 - w by omega]
    have hst : q_YF B n g r (zS1 (d + 1 + 1) 1) (nI (6 - (w + 1))) (fun p s => q_stS B n p s (q_stO B n (q_lv B n w) p s)) := fun p u s f hp hu hs => by
      rw [q_zS1_1]
      refine q_Xstep h hp hu hs (fun h30 => ?_)
      have w2 := q_xword (u := u) (s := s + 1) (f := f) h hp (w := 2) (by decide)
      rw [show q_ws 2 = [119, 104, 101, 110] from rfl] at w2
      unfold q_restS q_stO
      rw [if_neg (show ¬ (6 : Int32) ≤ nI (6 - (w + 1)) from nI_ge (b := 6) (by omega) (by decide)), w2]
      by_cases c : q_wd B n [119, 104, 101, 110] p = true
      · have hl : p + 4 ≤ n := by rcases q_wd_lt _ _ c with h | h <;> simp at h <;> omega
        rw [if_pos c, if_pos c, q_bI, if_neg (by decide)]
        refine q_okI_b ?_
        rw [show p + [119, 104, 101, 110].length = p + 4 from rfl, q_zS1_2]
        exact q_Xwhen h (by rw [ex]; exact ih) (fun p s hp hs => q_lv_gI w p s hp hs) hl (by omega) h30
      · rw [if_neg c, if_neg c, q_bI, if_pos rfl, q_00]
        exact ⟨_, _, _, rfl⟩
    intro p u s f hp hu hs
    rw [q_zS1_0, q_lv]
    exact q_Xsteps h hst (fun p s hp hs => q_stS_gI hp (fun h30 => q_stO_gI (fun p s hp hs => q_lv_gI w p s hp hs) hp h30)) (fun p s q its he => q_stS_pos (fun _ _ hc => q_stO_pos hc) he) hp hu hs
end Xi
