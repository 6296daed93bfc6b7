/-! ===== pure part: the reference reads statements ===== -/
def q_okN (g : zSG) (r : zLS) (c s : Nat) (w : Int32) (fc fn : Nat → Int32) (out : Option zRR) : qRI → Prop
  | .inl q => ∃ p' c' s' w' o' fc' fn', out = some (.inl none, q_O g 3 0 (q_m r p' (nI q) c' s' w' o' fc' fn'))
  | .inr (q, its) => ∃ fc' fn', out = some (.inl none, q_O g 3 0 (q_m r (nI q) (-1) (nI (c + q_lm its)) (nI (s + its.length)) w (0 : Int32) fc' fn')) ∧ q_spM fc' fn' 0 s c its ∧ ∀ i, i < c → fc' i = fc i ∧ fn' i = fn i
theorem q_zS5_0 (d : Nat) (g : zSG) : zS5 (d + 1) 0 [.inr (.inl (3, 0, 0))] g = z_run (zM_X5_statement (zS5 d)) zc_X5_statement zk_X5_statement 100000 0 [(0, .inr (.inl (3, 0, 0)))] g (0, 0) := by
  rw [zS5_0]
  exact z_fn_ok (sh := zs_X5_statement) (vs := [.inr (.inl (3, 0, 0))]) rfl rfl
theorem q_spM_cong {f f' f2 f2' : Nat → Int32} {b : Nat} : ∀ (l : List qIt) (i p : Nat), (∀ j, p ≤ j → j < p + q_lm l → f' (b + j) = f (b + j) ∧ f2' (b + j) = f2 (b + j)) → q_spM f f2 b i p l → q_spM f' f2' b i p l
  | [], _, _, _, _ => trivial
  | it :: r, i, p, h, h' => by
    rw [q_lm] at h
    have h0 := h p (Nat.le_refl _) (by omega)
    have h1 := h (p + 1 + it.2.1.length) (by omega) (by omega)
    exact ⟨⟨h0.1.trans h'.1.1, h0.2.trans h'.1.2⟩, q_spMO_cong it.2.1 (p + 1) (fun j h2 h3 => h j (by omega) (by omega)) h'.2.1, h1.1.trans h'.2.2.1, fun e => h1.2.trans (h'.2.2.2.1 e), q_spM_cong r (i + 1) _ (fun j h2 h3 => h j (by omega) (by omega)) h'.2.2.2.2⟩
theorem q_spM_app {f f2 : Nat → Int32} {b : Nat} : ∀ (l l' : List qIt) (i p : Nat), q_wfI l → q_spM f f2 b i p l → q_spM f f2 b (i + l.length) (p + q_lm l) l' → q_spM f f2 b i p (l ++ l')
  | [], l', i, p, _, _, h => by simpa [q_lm] using h
  | it :: r, l', i, p, hw, h, h' => by
    refine ⟨h.1, h.2.1, h.2.2.1, fun e => ?_, q_spM_app r l' (i + 1) _ hw.2.2.2.2 h.2.2.2.2 ?_⟩
    · have e3 : List.take it.2.2 (r ++ l') = List.take it.2.2 r := List.take_append_of_le_length (hw.2.2.2.1 e)
      have h2 := h.2.2.2.1 e
      first
        | (rw [show (List.append r l') = r ++ l' from rfl, e3]; exact h2)
        | (rw [e3]; exact h2)
    · rw [List.length_cons, q_lm] at h'
      rw [show i + 1 + r.length = i + (r.length + 1) by omega, show p + 1 + it.2.1.length + 1 + q_lm r = p + (it.2.1.length + 2 + q_lm r) by omega]
      exact h'
section Mx
variable {B : Nat → Nat} {n : Nat} {g : zSG} {r : zLS} {w : Int32} {fc fn : Nat → Int32}
theorem q_dP (q : Nat) : lg_cmp (q_Vw B n q) (17076 : Int64) = 0 ↔ q_wd B n [112, 117, 116] q = true := q_wdec (by decide) (q_lt_dec (by decide)) (by decide) (by decide) q
theorem q_dS (q : Nat) : lg_cmp (q_Vw B n q) (19513 : Int64) = 0 ↔ q_wd B n [115, 97, 121] q = true := q_wdec (by decide) (q_lt_dec (by decide)) (by decide) (by decide) q
theorem q_dW (q : Nat) : lg_cmp (q_Vw B n q) (762030 : Int64) = 0 ↔ q_wd B n [119, 104, 101, 110] q = true := q_wdec (by decide) (q_lt_dec (by decide)) (by decide) (by decide) q
def q_YM (B : Nat → Nat) (n : Nat) (g : zSG) (r : zLS) (F : List zVV → zSG → Option zRR) (w : Int32) (S : Nat → Nat → qRI) : Prop := ∀ p c s fc fn, p ≤ n → c ≤ p → s ≤ 30 → q_okN g r c s w fc fn (F [.inr (.inl (3, 0, 0))] (q_O g 3 0 (q_m r (nI p) (-1) (nI c) (nI s) w (0 : Int32) fc fn))) (S (q_skp B n p) s)
/-- the end of put and of say: the sign, behind the laid word -/
theorem q_Mfin (h : q_rdM B n r) {P : Nat → List zVV → zSG → Option zRR} {N p c s k : Nat} {f1 f2 : Nat → Int32} {ops : List (Nat × Nat)} (hk : k = 11 ∨ k = 12) (hp : p ≤ n) (hc : c + 1 + ops.length ≤ p) (h3 : q_spMO f1 f2 0 (c + 1) ops) (hb1 : f1 c = nI 14 ∧ f2 c = nI s) (hb : ∀ i, i < c → f1 i = fc i ∧ f2 i = fn i) : q_okN g r c s w fc fn (z_bV (zF_X5_emit [.inr (.inl (3, 0, 0)), .inl (nI k), .inl (0 : Int32)] (q_O g 3 0 (q_m r (nI p) (-1) (nI (c + 1 + ops.length)) (nI (s + 1)) w (0 : Int32) f1 f2))) (fun g6 => z_run (zM_X5_statement P) zc_X5_statement zk_X5_statement (N + 1) 262 [(0, .inr (.inl (3, 0, 0)))] g6 (0, 0))) (match q_end B n 59 p with | .inl r => .inl r | .inr r => .inr (r, [(k, ops, 0)])) := by
  have hn := h.1
  have t59 := q_mneed (g := g) (c := nI (c + 1 + ops.length + 1)) (s := nI (s + 1)) (w := w) (o := (0 : Int32)) (fc := upd f1 (c + 1 + ops.length) (nI k)) (fn := upd f2 (c + 1 + ops.length) 0) h hp (k := 59) (by decide) (by decide)
  rw [q_memit (by omega), q_bV, zu_X5_statement_262, show zF_X5_need [.inr (.inl (3, 0, 0)), .inl (59 : Int32)] _ = _ from t59]
  unfold q_end
  by_cases c9 : q_chr B n (q_skp B n p) 59 = true
  · rw [if_pos c9, if_pos c9, q_bV]
    refine ⟨upd f1 (c + 1 + ops.length) (nI k), upd f2 (c + 1 + ops.length) 0, ?_, ⟨⟨?_, ?_⟩, ?_, ?_, ?_, trivial⟩, fun i hi => ?_⟩
    · rw [show c + q_lm [(k, ops, 0)] = c + 1 + ops.length + 1 by simp only [q_lm]; omega]
      rfl
    · rw [Nat.zero_add, pk_un (by omega)]
      exact hb1.1
    · rw [Nat.zero_add, pk_un (by omega)]
      exact hb1.2
    · exact q_spMO_cong ops (c + 1) (fun i h5 h6 => ⟨pk_un (by omega), pk_un (by omega)⟩) h3
    · rw [Nat.zero_add]
      exact pk_us
    · intro e
      have e2 : k = 13 := e
      omega
    · rw [pk_un (by omega), pk_un (by omega)]
      exact hb i hi
  · rw [if_neg c9, if_neg c9, q_bV]
    exact ⟨_, _, _, _, _, _, _, rfl⟩
theorem q_M262 {P : Nat → List zVV → zSG → Option zRR} {N q c s : Nat} {p' c' s' w' o' : Int32} {f1 f2 : Nat → Int32} (hq : q ≤ 400) : q_okN g r c s w fc fn (z_run (zM_X5_statement P) zc_X5_statement zk_X5_statement (N + 1) 262 [(0, .inr (.inl (3, 0, 0)))] (q_O g 3 0 (q_m r p' (nI q) c' s' w' o' f1 f2)) (0, 0)) (.inl q) := by
  rw [zu_X5_statement_262, q_mneed0 (q_nI_m1 (by omega)), q_bV]
  exact ⟨_, _, _, _, _, _, _, rfl⟩
/-- put and say, behind the word -/
theorem q_M204p (h : q_rdM B n r) {P : Nat → List zVV → zSG → Option zRR} {N p c s : Nat} {V : Int64} {f1 f2 : Nat → Int32} (hV : lg_cmp V (17076 : Int64) = 0) (hp : p ≤ n) (hc : c + 1 ≤ p) (hb1 : f1 c = nI 14 ∧ f2 c = nI s) (hb : ∀ i, i < c → f1 i = fc i ∧ f2 i = fn i) : q_okN g r c s w fc fn (z_run (zM_X5_statement P) zc_X5_statement zk_X5_statement (N + 1 + 1) 204 [(0, .inr (.inl (3, 0, 0))), (1, .inr (.inr V))] (q_O g 3 0 (q_m r (nI p) (-1) (nI (c + 1)) (nI (s + 1)) w (0 : Int32) f1 f2)) (0, 0)) (match q_sum B n (q_pT B n 12) p with
      | .inl r => .inl r
      | .inr (r, l) => match q_sum B n (q_pT B n 12) r with
        | .inl r => .inl r
        | .inr (r, l') => match q_end B n 59 r with
          | .inl r => .inl r
          | .inr r => .inr (r, [(11, l ++ l', 0)])) := by
  have hn := h.1
  rw [zu_X5_statement_204, if_pos hV]
  have hf := q_MSum (g := g) h p (c + 1) (nI (s + 1)) w f1 f2 hp hc
  have hg := q_sumT (B := B) (d := 0) hp (by decide)
  revert hf hg
  cases q_sum B n (q_pT B n 12) p with
  | inl q =>
    rintro ⟨p', c', s', w', o', fc', fn', e⟩ ⟨g1, g2⟩
    have hb := q_nI_m1 (c := q) (by omega)
    rw [e, q_bV, q_mfine0 hb, q_bI, if_pos rfl, q_mfine0 hb, q_bI, if_pos rfl]
    exact q_M262 (by omega)
  | inr y =>
    obtain ⟨q, l⟩ := y
    rintro ⟨f3, f4, e, s2, b2⟩ ⟨g1, g2, g3, -, -⟩
    rw [e, q_bV, q_mfine1, q_bI, if_neg (by decide)]
    dsimp only
    have hf := q_MSum (g := g) h q (c + 1 + l.length) (nI (s + 1)) w f3 f4 g1 (by omega)
    have hg := q_sumT (B := B) (d := 1) g1 (by decide)
    revert hf hg
    cases q_sum B n (q_pT B n 12) q with
    | inl q' =>
      rintro ⟨p', c', s', w', o', fc', fn', e⟩ ⟨g1, g2⟩
      have hb := q_nI_m1 (c := q') (by omega)
      rw [e, q_bV, q_mfine0 hb, q_bI, if_pos rfl]
      exact q_M262 (by omega)
    | inr y =>
      obtain ⟨q', l'⟩ := y
      rintro ⟨f5, f6, e, s3, b3⟩ ⟨t1, t2, t3, -, -⟩
      rw [e, q_bV, q_mfine1, q_bI, if_neg (by decide)]
      dsimp only
      have el : c + 1 + l.length + l'.length = c + 1 + (l ++ l').length := by rw [List.length_append]; omega
      rw [el]
      refine q_Mfin h (k := 11) (Or.inl rfl) t1 (by omega) (q_spMO_app l l' (c + 1) (q_spMO_cong l (c + 1) (fun i h1 h2 => b3 (0 + i) (by omega)) s2) s3) ?_ (fun i hi => ?_)
      · rw [(b3 c (by omega)).1, (b3 c (by omega)).2, (b2 c (by omega)).1, (b2 c (by omega)).2]
        exact hb1
      · rw [(b3 i (by omega)).1, (b3 i (by omega)).2, (b2 i (by omega)).1, (b2 i (by omega)).2]
        exact hb i hi
theorem q_M204s (h : q_rdM B n r) {P : Nat → List zVV → zSG → Option zRR} {N p c s : Nat} {V : Int64} {f1 f2 : Nat → Int32} (hV : ¬ lg_cmp V (17076 : Int64) = 0) (hp : p ≤ n) (hc : c + 1 ≤ p) (hb1 : f1 c = nI 14 ∧ f2 c = nI s) (hb : ∀ i, i < c → f1 i = fc i ∧ f2 i = fn i) : q_okN g r c s w fc fn (z_run (zM_X5_statement P) zc_X5_statement zk_X5_statement (N + 1 + 1 + 1) 204 [(0, .inr (.inl (3, 0, 0))), (1, .inr (.inr V))] (q_O g 3 0 (q_m r (nI p) (-1) (nI (c + 1)) (nI (s + 1)) w (0 : Int32) f1 f2)) (0, 0)) (match q_cmp B n (q_pT B n 12) p with
      | .inl r => .inl r
      | .inr (r, l) => match q_end B n 59 r with
        | .inl r => .inl r
        | .inr r => .inr (r, [(12, l, 0)])) := by
  have hn := h.1
  rw [zu_X5_statement_204, if_neg hV, zu_X5_statement_244]
  have hf := q_MCmp (g := g) h p (c + 1) (nI (s + 1)) w f1 f2 hp hc
  have hg := q_cmpT (B := B) hp
  revert hf hg
  cases q_cmp B n (q_pT B n 12) p with
  | inl q =>
    rintro ⟨p', c', s', w', o', fc', fn', e⟩ ⟨g1, g2⟩
    have hb := q_nI_m1 (c := q) (by omega)
    rw [e, q_bV, q_mfine0 hb, q_bI, if_pos rfl]
    exact q_M262 (by omega)
  | inr y =>
    obtain ⟨q, l⟩ := y
    rintro ⟨f3, f4, e, s2, b2⟩ ⟨g1, g2, g3, -, -⟩
    rw [e, q_bV, q_mfine1, q_bI, if_neg (by decide)]
    dsimp only
    refine q_Mfin h (k := 12) (Or.inr rfl) g1 (by omega) s2 ?_ (fun i hi => ?_)
    · rw [(b2 c (by omega)).1, (b2 c (by omega)).2]
      exact hb1
    · rw [(b2 i (by omega)).1, (b2 i (by omega)).2]
      exact hb i hi
end Mx
