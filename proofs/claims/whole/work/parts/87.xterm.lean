/-! ===== pure part: the program reads terms, sums, comparisons ===== -/
def q_okX (g : zSG) (r : zLS) (u s : Nat) (f : Nat → Int32) (out : Option zRR) : qRes → Prop
  | .inl q => ∃ u' f', out = some (.inl (some (.inl 0)), q_O g 1 0 (q_x r q u' s f'))
  | .inr (q, l) => ∃ f', out = some (.inl (some (.inl 1)), q_O g 1 0 (q_x r q (u + l.length) s f')) ∧ q_spO f' u l ∧ ∀ i, i < u → f' i = f i
theorem q_spO_app {f : Nat → Int32} : ∀ (l l' : List (Nat × Nat)) (p : Nat), q_spO f p l → q_spO f (p + l.length) l' → q_spO f p (l ++ l')
  | [], l', p, _, h => by simpa using h
  | o :: r, l', p, h, h' => by
    refine ⟨h.1, q_spO_app r l' (p + 1) h.2 ?_⟩
    rw [List.length_cons] at h'
    rw [show p + 1 + r.length = p + (r.length + 1) by omega]
    exact h'
theorem q_spO_cong {f f' : Nat → Int32} : ∀ (l : List (Nat × Nat)) (p : Nat), (∀ i, p ≤ i → i < p + l.length → f' i = f i) → q_spO f p l → q_spO f' p l
  | [], _, _, _ => trivial
  | o :: r, p, h, h' => ⟨(h p (Nat.le_refl _) (by simp)).trans h'.1, q_spO_cong r (p + 1) (fun i h1 h2 => h i (by omega) (by simp only [List.length_cons]; omega)) h'.2⟩
theorem q_zP1_0 (d : Nat) (x1 : Int32) (g : zSG) : zP1 (d + 1) 0 [.inr (.inl (1, 0, 0)), .inl x1] g = z_run (zM_X1_readTerm (zP1 d)) zc_X1_readTerm zk_X1_readTerm 100000 0 [(0, .inr (.inl (1, 0, 0))), (1, .inl x1)] g (0, 0) := by
  rw [zP1_0]
  exact z_fn_ok (sh := zs_X1_readTerm) (vs := [.inr (.inl (1, 0, 0)), .inl x1]) rfl rfl
theorem q_zP1_1 (d : Nat) (x1 : Int32) (g : zSG) : zP1 (d + 1) 1 [.inr (.inl (1, 0, 0)), .inl x1] g = z_run (zM_X1_readSum (zP1 d)) zc_X1_readSum zk_X1_readSum 100000 0 [(0, .inr (.inl (1, 0, 0))), (1, .inl x1)] g (0, 0) := by
  rw [zP1_1]
  exact z_fn_ok (sh := zs_X1_readSum) (vs := [.inr (.inl (1, 0, 0)), .inl x1]) rfl rfl
theorem q_zP1_2 (d : Nat) (x1 : Int32) (g : zSG) : zP1 (d + 1) 2 [.inr (.inl (1, 0, 0)), .inl x1] g = z_run (zM_X1_readCompare (zP1 d)) zc_X1_readCompare zk_X1_readCompare 100000 0 [(0, .inr (.inl (1, 0, 0))), (1, .inl x1)] g (0, 0) := by
  rw [zP1_2]
  exact z_fn_ok (sh := zs_X1_readCompare) (vs := [.inr (.inl (1, 0, 0)), .inl x1]) rfl rfl
section Xt
variable {B : Nat → Nat} {n : Nat} {g : zSG} {r : zLS}
theorem q_xjf (hB : ∀ i, i < n → B i < 256) (i : Nat) (g' : zSG) : zF_X1_joinFor [.inl (q_bv B n i)] g' = some (.inl (some (.inl (if q_jn B n i = 0 then -1 else nI (q_jn B n i)))), g') := by
  have e1 := q_bv_eq hB (i := i) (c := 43) (by decide)
  have e2 := q_bv_eq hB (i := i) (c := 45) (by decide)
  have e3 := q_bv_eq hB (i := i) (c := 42) (by decide)
  rw [(ze_X1_joinFor _ g').trans (zu_X1_joinFor_0 99999 _ g')]
  unfold q_jn
  by_cases h1 : q_chr B n i 43 = true
  · rw [if_pos (show q_bv B n i = (43 : Int32) from e1.mpr h1), if_pos h1]
    rfl
  · rw [if_neg (show ¬ q_bv B n i = (43 : Int32) from fun hc => h1 (e1.mp hc)), if_neg h1]
    by_cases h2 : q_chr B n i 45 = true
    · rw [if_pos (show q_bv B n i = (45 : Int32) from e2.mpr h2), if_pos h2]
      rfl
    · rw [if_neg (show ¬ q_bv B n i = (45 : Int32) from fun hc => h2 (e2.mp hc)), if_neg h2]
      by_cases h3 : q_chr B n i 42 = true
      · rw [if_pos (show q_bv B n i = (42 : Int32) from e3.mpr h3), if_pos h3]
        rfl
      · rw [if_neg (show ¬ q_bv B n i = (42 : Int32) from fun hc => h3 (e3.mp hc)), if_neg h3]
        rfl
theorem q_xnum4 (h : q_rd B n g r) {u s : Nat} {f : Nat → Int32} (hu : u < 400) : ∀ (m p k N v : Nat), m + k = 6 → m < N → v < 10 ^ k → p ≤ n → q_okX g r u s f (z_run zM_X1_readNumber zc_X1_readNumber zk_X1_readNumber N 4 [(0, .inr (.inl (1, 0, 0))), (1, .inl (nI v)), (2, .inl (nI k))] (q_O g 1 0 (q_x r p u s f)) (0, 0)) (q_dg B n m p v) := by
  have hn := h.1
  have hB := fun i hi => (h.2.1 i hi).1
  have fin : ∀ p v, v < 1000000 → (z_bI (zF_X1_lay [.inr (.inl (1, 0, 0)), .inl (0 : Int32), .inl (nI v)] (q_O g 1 0 (q_x r p u s f))) (fun r6 g5 => (if r6 = 0 then (if (0 : Int32) = 0 ∨ (0 : Int32) = 1 then some (.inl (some (.inl (0 : Int32))), g5) else none) else (if (1 : Int32) = 0 ∨ (1 : Int32) = 1 then some (.inl (some (.inl (1 : Int32))), g5) else none)))) = some (.inl (some (.inl 1)), q_O g 1 0 (q_x r p (u + 1) s (upd f u (nI (0 + 16 * v))))) := by
    intro p v hv
    rw [show zF_X1_lay [.inr (.inl (1, 0, 0)), .inl (0 : Int32), .inl (nI v)] (q_O g 1 0 (q_x r p u s f)) = _ from q_xlay1 (k := 0) (by decide) (by omega) hu, q_bI, if_neg (by decide), q_11]
  have fin2 : ∀ p v, v < 1000000 → q_okX g r u s f (some (.inl (some (.inl 1)), q_O g 1 0 (q_x r p (u + 1) s (upd f u (nI (0 + 16 * v)))))) (.inr (p, [(0, v)])) := by
    intro p v hv
    exact ⟨_, rfl, ⟨pk_us, trivial⟩, fun i hi => pk_un (by omega)⟩
  intro m
  induction m with
  | zero =>
    intro p k N v hk hN hv hp
    obtain ⟨N, rfl⟩ : ∃ N', N = N' + 1 := ⟨N - 1, by omega⟩
    have e : k = 6 := by omega
    subst e
    rw [zu_X1_readNumber_4, if_pos (show (6 : Int32) ≤ nI 6 by decide), q_O_get, q_x3, q_xbyte h (by omega), q_bI, q_xdig hB, q_bI, q_dg]
    cases ht : q_dgt B n p with
    | true =>
      rw [if_neg (show ¬ (if true = true then (1 : Int32) else 0) = 0 by decide), q_00, if_pos rfl]
      exact ⟨u, f, rfl⟩
    | false =>
      rw [if_pos (show (if false = true then (1 : Int32) else 0) = 0 by decide), if_neg (by decide), fin p v (by omega)]
      exact fin2 p v (by omega)
  | succ m ih =>
    intro p k N v hk hN hv hp
    obtain ⟨N, rfl⟩ : ∃ N', N = N' + 1 := ⟨N - 1, by omega⟩
    have hk6 : 10 ^ k ≤ 10 ^ 6 := Nat.pow_le_pow_right (by decide) (by omega)
    rw [zu_X1_readNumber_4, if_neg (show ¬ (6 : Int32) ≤ nI k from nI_ge (b := 6) (by omega) (by decide)), q_O_get, q_x3, q_xbyte h (by omega), q_bI, q_xdig hB, q_bI, q_dg]
    cases ht : q_dgt B n p with
    | true =>
      obtain ⟨h1, h2, h3⟩ := q_dgt_lt ht
      have ev : nI v * (10 : Int32) + nI (B p) - (48 : Int32) = nI (v * 10 + (B p - 48)) := by
        rw [show (10 : Int32) = nI 10 from rfl, pk_mul, nI_add, show (48 : Int32) = nI 48 from rfl, pk_sub (by omega), show v * 10 + B p - 48 = v * 10 + (B p - 48) by omega]
      rw [if_neg (show ¬ (if true = true then (1 : Int32) else 0) = 0 by decide), q_O_get, q_x3, q_xbyte h (by omega), q_bI, show q_bv B n p = nI (B p) from if_pos h1, ev, nI_1, q_gI, q_O_get, q_x3, nI_1, q_O_O, q_x3s, if_pos rfl]
      refine ih (p + 1) (k + 1) N _ (by omega) (by omega) ?_ (by omega)
      rw [Nat.pow_succ]
      omega
    | false =>
      rw [if_pos (show (if false = true then (1 : Int32) else 0) = 0 by decide), if_neg (by decide), q_O_get, q_x3, q_xbyte h (by omega), q_bI, q_xdig hB, q_bI, ht, if_pos (show (if false = true then (1 : Int32) else 0) = 0 by decide), fin p v (by omega)]
      exact fin2 p v (by omega)
theorem q_xnum (h : q_rd B n g r) {p u s : Nat} {f : Nat → Int32} (hu : u < 400) (hp : p ≤ n) : q_okX g r u s f (zF_X1_readNumber [.inr (.inl (1, 0, 0))] (q_O g 1 0 (q_x r p u s f))) (q_dg B n 6 p 0) := by
  rw [(ze_X1_readNumber _).trans (zu_X1_readNumber_0 99999 _)]
  exact q_xnum4 h hu 6 p 0 99999 0 rfl (by decide) (by decide) hp
/-- what a reader of terms must do -/
def q_XF (B : Nat → Nat) (n : Nat) (g : zSG) (r : zLS) (F : List zVV → zSG → Option zRR) (x : Int32) (T : Nat → qRes) : Prop := ∀ p u s f, p ≤ n → u ≤ p → q_okX g r u s f (F [.inr (.inl (1, 0, 0)), .inl x] (q_O g 1 0 (q_x r p u s f))) (T p)
def q_TG (n : Nat) (T : Nat → qRes) : Prop := ∀ p, p ≤ n → match T p with
  | .inl q => p ≤ q ∧ q ≤ n
  | .inr (q, l) => q ≤ n ∧ p + l.length ≤ q ∧ 0 < l.length
theorem q_TG_of {T : Nat → qRes} {d : Nat} (h : ∀ p, p ≤ n → q_gd (n := n) p d (T p)) : q_TG n T := by
  intro p hp
  have := h p hp
  revert this
  cases T p with
  | inl q => exact fun h => h
  | inr x => exact fun h => ⟨h.1, h.2.1, h.2.2.1⟩
theorem q_Xsum12 (h : q_rd B n g r) {P : Nat → List zVV → zSG → Option zRR} {x : Int32} {T : Nat → qRes} (hF : q_XF B n g r (P 0) x T) (hT : q_TG n T) {u s : Nat} {f : Nat → Int32} : ∀ (m p k N p0 : Nat) (acc : List (Nat × Nat)) (f1 : Nat → Int32), k + m = 400 → m < N → p ≤ n → u ≤ p0 → p0 + acc.length ≤ p → k < acc.length → q_spO f1 u acc → (∀ i, i < u → f1 i = f i) →
    q_okX g r u s f (z_run (zM_X1_readSum P) zc_X1_readSum zk_X1_readSum N 12 [(0, .inr (.inl (1, 0, 0))), (1, .inl x), (2, .inl (nI k))] (q_O g 1 0 (q_x r p (u + acc.length) s f1)) (0, 0)) (q_sm B n T m p acc) := by
  have hn := h.1
  have hB := fun i hi => (h.2.1 i hi).1
  intro m
  induction m with
  | zero =>
    intro p k N p0 acc f1 hk hN hp h0 h1 h2
    omega
  | succ m ih =>
    intro p k N p0 acc f1 hk hN hp h0 h1 h2 h3 h4
    obtain ⟨N, rfl⟩ : ∃ N', N = N' + 1 := ⟨N - 1, by omega⟩
    have hq := q_skp_ge (B := B) (n := n) p
    have hqn := q_skp_le (B := B) hp
    rw [zu_X1_readSum_12, if_neg (show ¬ (400 : Int32) ≤ nI k from nI_ge (b := 400) (by omega) (by decide)), q_xskip h hp, q_bV, q_O_get, q_x3, q_xbyte h (by omega), q_bI, q_xjf hB, q_bI, q_sm]
    rcases q_jn_is (B := B) (n := n) (q_skp B n p) with hj | ⟨hj1, hj2, hj3⟩
    · rw [hj, if_pos (show (if (0 : Nat) = 0 then (-1 : Int32) else nI 0) = -1 by decide), q_11, if_pos rfl]
      exact ⟨f1, rfl, h3, h4⟩
    · rw [if_neg (show ¬ q_jn B n (q_skp B n p) = 0 by omega), if_neg (q_nI_m1 (by omega)), if_neg (show ¬ q_jn B n (q_skp B n p) = 0 by omega), q_gI, q_O_get, q_x3, nI_1, q_O_O, q_x3s]
      have hf := hF (q_skp B n p + 1) (u + acc.length) s f1 (by omega) (by omega)
      have hg := hT (q_skp B n p + 1) (by omega)
      revert hf hg
      cases T (q_skp B n p + 1) with
      | inl q =>
        rintro ⟨u', f', e⟩ -
        rw [e, q_bI, if_pos rfl, q_00]
        exact ⟨u', f', rfl⟩
      | inr y =>
        obtain ⟨q, l⟩ := y
        rintro ⟨f2, e, s2, b2⟩ ⟨g1, g2, g3⟩
        have hlay := q_xlay1 (g := g) (r := r) (p := q) (u := u + acc.length + l.length) (s := s) (f := f2) (k := q_jn B n (q_skp B n p)) (v := 0) (by omega) (by decide) (by omega)
        rw [e, q_bI, if_neg (by decide)]
        rw [show zF_X1_lay [.inr (.inl (1, 0, 0)), .inl (nI (q_jn B n (q_skp B n p))), .inl (0 : Int32)] (q_O g 1 0 (q_x r q (u + acc.length + l.length) s f2)) = _ from hlay, q_bI, if_neg (by decide), nI_1]
        have hlen : u + acc.length + l.length + 1 = u + (acc ++ l ++ [(q_jn B n (q_skp B n p), 0)]).length := by simp only [List.length_append, List.length_cons, List.length_nil]; omega
        rw [hlen]
        refine ih q (k + 1) N p0 _ _ (by omega) (by omega) g1 h0 (by omega) (by omega) ?_ (fun i hi => ?_)
        · refine q_spO_app _ _ u (q_spO_app _ _ u ?_ ?_) ?_
          · refine q_spO_cong acc u (fun i h5 h6 => ?_) h3
            rw [pk_un (by omega)]
            exact b2 i (by omega)
          · refine q_spO_cong l (u + acc.length) (fun i h5 h6 => pk_un (by omega)) s2
          · refine ⟨?_, trivial⟩
            rw [List.length_append, show u + (acc.length + l.length) = u + acc.length + l.length by omega]
            exact pk_us
        · rw [pk_un (by omega), b2 i (by omega)]
          exact h4 i hi
theorem q_Xsum (h : q_rd B n g r) {P : Nat → List zVV → zSG → Option zRR} {x : Int32} {T : Nat → qRes} (hF : q_XF B n g r (P 0) x T) (hT : q_TG n T) : q_XF B n g r (fun vs g => z_run (zM_X1_readSum P) zc_X1_readSum zk_X1_readSum 100000 0 [(0, .inr (.inl (1, 0, 0))), (1, .inl x)] g (0, 0)) x (q_sum B n T) := by
  intro p u s f hp hu
  have hf := hF p u s f hp hu
  have hg := hT p hp
  show q_okX g r u s f (z_run (zM_X1_readSum P) zc_X1_readSum zk_X1_readSum (99999 + 1) 0 [(0, .inr (.inl (1, 0, 0))), (1, .inl x)] (q_O g 1 0 (q_x r p u s f)) (0, 0)) (q_sum B n T p)
  rw [zu_X1_readSum_0]
  unfold q_sum
  revert hf hg
  cases T p with
  | inl q =>
    rintro ⟨u', f', e⟩ -
    rw [e, q_bI, if_pos rfl, q_00]
    exact ⟨u', f', rfl⟩
  | inr y =>
    obtain ⟨q, l⟩ := y
    rintro ⟨f2, e, s2, b2⟩ ⟨g1, g2, g3⟩
    rw [e, q_bI, if_neg (by decide)]
    exact q_Xsum12 h hF hT 400 q 0 99999 p l f2 (by omega) (by omega) g1 hu (by omega) (by omega) s2 b2
theorem q_Xcmp (h : q_rd B n g r) {P : Nat → List zVV → zSG → Option zRR} {x : Int32} {T : Nat → qRes} (hF : q_XF B n g r (P 1) x (q_sum B n T)) (hT : q_TG n (q_sum B n T)) (hend : ∀ p q l, p ≤ n → q_sum B n T p = .inr (q, l) → ¬ (q < n ∧ B q = 32)) : q_XF B n g r (fun vs g => z_run (zM_X1_readCompare P) zc_X1_readCompare zk_X1_readCompare 100000 0 [(0, .inr (.inl (1, 0, 0))), (1, .inl x)] g (0, 0)) x (q_cmp B n T) := by
  have hn := h.1
  intro p u s f hp hu
  have hf := hF p u s f hp hu
  have hg := hT p hp
  have he := hend p
  show q_okX g r u s f (z_run (zM_X1_readCompare P) zc_X1_readCompare zk_X1_readCompare (99999 + 1) 0 [(0, .inr (.inl (1, 0, 0))), (1, .inl x)] (q_O g 1 0 (q_x r p u s f)) (0, 0)) (q_cmp B n T p)
  rw [zu_X1_readCompare_0]
  unfold q_cmp
  revert hf hg he
  cases q_sum B n T p with
  | inl q =>
    rintro ⟨u', f', e⟩ - -
    rw [e, q_bI, if_pos rfl, q_00]
    exact ⟨u', f', rfl⟩
  | inr y =>
    obtain ⟨q, l⟩ := y
    rintro ⟨f2, e, s2, b2⟩ ⟨g1, g2, g3⟩ he
    have hsk : q_skp B n q = q := q_skp_id (he q l hp rfl)
    have second : ∀ (k : Nat), k = 9 ∨ k = 10 → q + 1 ≤ n → q_okX g r u s f (z_bI ((P 1) [.inr (.inl (1, 0, 0)), .inl x] (q_O g 1 0 (q_x r (q + 1) (u + l.length) s f2))) (fun r12 g11 => (if r12 = 0 then (if (0 : Int32) = 0 ∨ (0 : Int32) = 1 then some (.inl (some (.inl (0 : Int32))), g11) else none) else (z_bI (zF_X1_lay [.inr (.inl (1, 0, 0)), .inl (nI k), .inl (0 : Int32)] g11) (fun r14 g13 => (if r14 = 0 then (if (0 : Int32) = 0 ∨ (0 : Int32) = 1 then some (.inl (some (.inl (0 : Int32))), g13) else none) else (if (1 : Int32) = 0 ∨ (1 : Int32) = 1 then some (.inl (some (.inl (1 : Int32))), g13) else none))))))) (match q_sum B n T (q + 1) with | .inl r => .inl r | .inr (r, l') => .inr (r, l ++ l' ++ [(k, 0)])) := by
      intro k hk hq1
      have hf := hF (q + 1) (u + l.length) s f2 hq1 (by omega)
      have hg := hT (q + 1) hq1
      revert hf hg
      cases q_sum B n T (q + 1) with
      | inl q' =>
        rintro ⟨u', f', e⟩ -
        rw [e, q_bI, if_pos rfl, q_00]
        exact ⟨u', f', rfl⟩
      | inr y =>
        obtain ⟨q', l'⟩ := y
        rintro ⟨f3, e, s3, b3⟩ ⟨k1, k2, k3⟩
        have hlay := q_xlay1 (g := g) (r := r) (p := q') (u := u + l.length + l'.length) (s := s) (f := f3) (k := k) (v := 0) (by omega) (by decide) (by omega)
        rw [e, q_bI, if_neg (by decide)]
        rw [show zF_X1_lay [.inr (.inl (1, 0, 0)), .inl (nI k), .inl (0 : Int32)] (q_O g 1 0 (q_x r q' (u + l.length + l'.length) s f3)) = _ from hlay, q_bI, if_neg (by decide), q_11]
        have hlen : u + l.length + l'.length + 1 = u + (l ++ l' ++ [(k, 0)]).length := by simp only [List.length_append, List.length_cons, List.length_nil]; omega
        rw [hlen]
        refine ⟨_, rfl, q_spO_app _ _ u (q_spO_app _ _ u ?_ ?_) ?_, fun i hi => ?_⟩
        · refine q_spO_cong l u (fun i h5 h6 => ?_) s2
          rw [pk_un (by omega)]
          exact b3 i (by omega)
        · refine q_spO_cong l' (u + l.length) (fun i h5 h6 => pk_un (by omega)) s3
        · refine ⟨?_, trivial⟩
          rw [List.length_append, show u + (l.length + l'.length) = u + l.length + l'.length by omega]
          exact pk_us
        · rw [pk_un (by omega), b3 i (by omega)]
          exact b2 i hi
    rw [e, q_bI, if_neg (by decide)]
    have t60 := q_xsign (u := u + l.length) (s := s) (f := f2) h g1 (c := 60) (by decide)
    have t61 := q_xsign (u := u + l.length) (s := s) (f := f2) h g1 (c := 61) (by decide)
    rw [hsk] at t60 t61
    rw [show zF_X1_takeSign [.inr (.inl (1, 0, 0)), .inl (60 : Int32)] (q_O g 1 0 (q_x r q (u + l.length) s f2)) = _ from t60]
    dsimp only
    by_cases c1 : q_chr B n q 60 = true
    · rw [if_pos c1, if_pos c1, q_bI, if_neg (by decide)]
      exact second 9 (Or.inl rfl) (q_chr_lt c1).1
    · rw [if_neg c1, if_neg c1, q_bI, if_pos rfl, show zF_X1_takeSign [.inr (.inl (1, 0, 0)), .inl (61 : Int32)] (q_O g 1 0 (q_x r q (u + l.length) s f2)) = _ from t61]
      by_cases c2 : q_chr B n q 61 = true
      · rw [if_pos c2, if_pos c2, q_bI, if_neg (by decide)]
        exact second 10 (Or.inr rfl) (q_chr_lt c2).1
      · rw [if_neg c2, if_neg c2, q_bI, if_pos rfl, q_11]
        exact ⟨f2, rfl, s2, b2⟩
end Xt
