/-! ===== pure part: the reference reads statements at every level, and a text ===== -/
section Mz
variable {B : Nat → Nat} {n : Nat} {g : zSG} {r : zLS} {w : Int32} {fc fn : Nat → Int32}
theorem q_M74 (h : q_rdM B n r) {P : Nat → List zVV → zSG → Option zRR} {N q c s : Nat} {wd : List Nat} (hq : q ≤ n) (hc : c ≤ q) (hl : q_lt wd) (hwd : q_wd B n wd q = true) : z_run (zM_X5_statement P) zc_X5_statement zk_X5_statement (N + 1) 74 [(0, .inr (.inl (3, 0, 0))), (1, .inr (.inr (q_Vw B n q)))] (q_O g 3 0 (q_m r (nI q) (-1) (nI c) (nI s) w (0 : Int32) fc fn)) (0, 0) = if lg_cmp (q_Vw B n q) (762030 : Int64) = 0 then z_run (zM_X5_statement P) zc_X5_statement zk_X5_statement N 106 [(0, .inr (.inl (3, 0, 0)))] (q_O g 3 0 (q_m r (nI (q + wd.length)) (-1) (nI (c + 1)) (nI (s + 1)) w (0 : Int32) (upd fc c (14 : Int32)) (upd fn c (nI s)))) (0, 0) else z_run (zM_X5_statement P) zc_X5_statement zk_X5_statement N 204 [(0, .inr (.inl (3, 0, 0))), (1, .inr (.inr (q_Vw B n q)))] (q_O g 3 0 (q_m r (nI (q + wd.length)) (-1) (nI (c + 1)) (nI (s + 1)) w (0 : Int32) (upd fc c (14 : Int32)) (upd fn c (nI s)))) (0, 0) := by
  have hn := h.1
  have hp := q_mpass (g := g) (b := -1) (c := nI c) (s := nI s) (w := w) (o := (0 : Int32)) (fc := fc) (fn := fn) h hq
  rw [q_wd_len hl hwd] at hp
  rw [zu_X5_statement_74, hp, q_bV, q_O_get, q_m6, q_memit (by omega), q_bV, q_gI, q_O_get, q_O_O, q_m6, q_m6s, nI_1]
theorem q_M35 (h : q_rdM B n r) {P : Nat → List zVV → zSG → Option zRR} {R : Nat → Nat → qRI} (h6 : w = 6 → ∀ p s, R p s = .inl p) {N : Nat} (hW : ¬ w = 6 → ∀ p c s fc fn f1 f2, p + 4 ≤ n → c ≤ p → s < 30 → q_wd B n [119, 104, 101, 110] p = true → (f1 c = nI 14 ∧ f2 c = nI s) → (∀ i, i < c → f1 i = fc i ∧ f2 i = fn i) → q_okN g r c s w fc fn (z_run (zM_X5_statement P) zc_X5_statement zk_X5_statement (N + 1 + 1 + 1) 106 [(0, .inr (.inl (3, 0, 0)))] (q_O g 3 0 (q_m r (nI (p + 4)) (-1) (nI (c + 1)) (nI (s + 1)) w (0 : Int32) f1 f2)) (0, 0)) (R p s)) {q c s : Nat} (hq : q ≤ n) (hc : c ≤ q) (hs : s ≤ 30) (hkn : q_wd B n [112, 117, 116] q = true ∨ q_wd B n [115, 97, 121] q = true ∨ q_wd B n [119, 104, 101, 110] q = true) : q_okN g r c s w fc fn (z_run (zM_X5_statement P) zc_X5_statement zk_X5_statement (N + 1 + 1 + 1 + 1 + 1) 35 [(0, .inr (.inl (3, 0, 0))), (1, .inr (.inr (q_Vw B n q))), (3, .inl (1 : Int32))] (q_O g 3 0 (q_m r (nI q) (-1) (nI c) (nI s) w (0 : Int32) fc fn)) (0, 0)) (q_stS B n q s (R q s)) := by
  have hn := h.1
  rw [zu_X5_statement_35, if_neg (by decide), q_O_get, q_m6]
  unfold q_stS
  by_cases h30 : 30 ≤ s
  · have e : s = 30 := by omega
    subst e
    rw [if_pos (show nI 30 = (30 : Int32) from rfl), if_pos h30, q_m3, q_mwrong, q_bV]
    exact ⟨_, _, _, _, _, _, _, rfl⟩
  · rw [if_neg (show ¬ nI s = (30 : Int32) from fun hc => h30 (by have := (nI_eq (b := 30) (by omega) (by decide)).mp hc; omega)), if_neg h30]
    have hb1 : upd fc c (14 : Int32) c = nI 14 ∧ upd fn c (nI s) c = nI s := ⟨pk_us, pk_us⟩
    have hb : ∀ i, i < c → upd fc c (14 : Int32) i = fc i ∧ upd fn c (nI s) i = fn i := fun i hi => ⟨pk_un (by omega), pk_un (by omega)⟩
    by_cases kp : q_wd B n [112, 117, 116] q = true
    · have hl : q + 3 ≤ n := by rcases q_wd_lt _ _ kp with h | h <;> simp at h <;> omega
      have nW : ¬ lg_cmp (q_Vw B n q) (762030 : Int64) = 0 := fun hx => absurd (q_wd_un (q_lt_dec (by decide)) (q_lt_dec (by decide)) kp ((q_dW q).mp hx)) (by decide)
      rw [if_neg nW, if_pos kp, q_M74 h hq hc (q_lt_dec (by decide)) kp, if_neg nW]
      exact q_M204p h ((q_dP q).mpr kp) hl (by simp only [List.length_cons, List.length_nil]; omega) hb1 hb
    · rw [if_neg kp]
      by_cases ks : q_wd B n [115, 97, 121] q = true
      · have hl : q + 3 ≤ n := by rcases q_wd_lt _ _ ks with h | h <;> simp at h <;> omega
        have nW : ¬ lg_cmp (q_Vw B n q) (762030 : Int64) = 0 := fun hx => absurd (q_wd_un (q_lt_dec (by decide)) (q_lt_dec (by decide)) ks ((q_dW q).mp hx)) (by decide)
        rw [if_neg nW, if_pos ks, q_M74 h hq hc (q_lt_dec (by decide)) ks, if_neg nW]
        exact q_M204s h (fun hx => kp ((q_dP q).mp hx)) hl (by simp only [List.length_cons, List.length_nil]; omega) hb1 hb
      · have kw : q_wd B n [119, 104, 101, 110] q = true := by
          rcases hkn with h | h | h
          · exact absurd h kp
          · exact absurd h ks
          · exact h
        have hl : q + 4 ≤ n := by rcases q_wd_lt _ _ kw with h | h <;> simp at h <;> omega
        have eW := (q_dW (B := B) (n := n) q).mpr kw
        rw [if_pos eW, if_neg ks, q_m7]
        by_cases e6 : w = 6
        · rw [if_pos e6, h6 e6, q_m3, q_mwrong, q_bV]
          exact ⟨_, _, _, _, _, _, _, rfl⟩
        · rw [if_neg e6, q_M74 h hq hc (q_lt_dec (by decide)) kw, if_pos eW]
          exact hW e6 q c s fc fn _ _ hl hc (by omega) kw hb1 hb
theorem q_Mstm (h : q_rdM B n r) {d : Nat} {R : Nat → Nat → qRI} (hRn : ∀ p s, ¬ q_wd B n [119, 104, 101, 110] p = true → R p s = .inl p) (h6 : w = 6 → ∀ p s, R p s = .inl p) (hW : ¬ w = 6 → ∀ p c s fc fn f1 f2, p + 4 ≤ n → c ≤ p → s < 30 → q_wd B n [119, 104, 101, 110] p = true → (f1 c = nI 14 ∧ f2 c = nI s) → (∀ i, i < c → f1 i = fc i ∧ f2 i = fn i) → q_okN g r c s w fc fn (z_run (zM_X5_statement (zS5 d)) zc_X5_statement zk_X5_statement (99994 + 1 + 1 + 1) 106 [(0, .inr (.inl (3, 0, 0)))] (q_O g 3 0 (q_m r (nI (p + 4)) (-1) (nI (c + 1)) (nI (s + 1)) w (0 : Int32) f1 f2)) (0, 0)) (R p s)) : q_YM B n g r (zS5 (d + 1) 0) w (fun p s => q_stS B n p s (R p s)) := by
  intro p c s fc fn hp hc hs
  rw [q_zS5_0]
  show q_okN g r c s w fc fn (z_run (zM_X5_statement (zS5 d)) zc_X5_statement zk_X5_statement (99994 + 1 + 1 + 1 + 1 + 1 + 1) 0 [(0, .inr (.inl (3, 0, 0)))] (q_O g 3 0 (q_m r (nI p) (-1) (nI c) (nI s) w (0 : Int32) fc fn)) (0, 0)) (q_stS B n (q_skp B n p) s (R (q_skp B n p) s))
  have hn := h.1
  have hq := q_skp_ge (B := B) (n := n) p
  have hqn := q_skp_le (B := B) hp
  have hw := q_mword (g := g) (b := -1) (c := nI c) (s := nI s) (w := w) (o := (0 : Int32)) (fc := fc) (fn := fn) h hp
  rw [show q_cv (q_lrw B n (n - q_skp B n p) (q_skp B n p)).reverse = q_Vw B n (q_skp B n p) from rfl] at hw
  rw [zu_X5_statement_0, hw, q_bL]
  by_cases kp : q_wd B n [112, 117, 116] (q_skp B n p) = true
  · rw [if_pos ((q_dP _).mpr kp)]
    exact q_M35 h h6 hW hqn (by omega) hs (Or.inl kp)
  · rw [if_neg (fun hx => kp ((q_dP _).mp hx))]
    by_cases ks : q_wd B n [115, 97, 121] (q_skp B n p) = true
    · rw [if_pos ((q_dS _).mpr ks)]
      exact q_M35 h h6 hW hqn (by omega) hs (Or.inr (Or.inl ks))
    · rw [if_neg (fun hx => ks ((q_dS _).mp hx))]
      by_cases kw : q_wd B n [119, 104, 101, 110] (q_skp B n p) = true
      · rw [if_pos ((q_dW _).mpr kw)]
        exact q_M35 h h6 hW hqn (by omega) hs (Or.inr (Or.inr kw))
      · rw [if_neg (fun hx => kw ((q_dW _).mp hx)), zu_X5_statement_35, if_pos rfl, q_O_get, q_m3, q_mwrong, q_bV]
        unfold q_stS
        rw [if_neg kp, if_neg ks, hRn _ _ kw]
        have e : (if 30 ≤ s then (.inl (q_skp B n p) : qRI) else .inl (q_skp B n p)) = .inl (q_skp B n p) := by split <;> rfl
        rw [e]
        exact ⟨_, _, _, _, _, _, _, rfl⟩
def q_stk (B : Nat → Nat) (n : Nat) : Nat → Nat → Nat → qRI
  | 0, p, s => q_stS B n p s (.inl p)
  | k + 1, p, s => q_stS B n p s (q_stO B n (q_lv B n k) p s)
theorem q_stk_lv (k p s : Nat) : q_lv B n k p s = q_lp B n (q_stk B n k) 31 p s [] := by
  cases k <;> rfl
theorem q_stk_gI : ∀ (k p s : Nat), p ≤ n → s ≤ 30 → q_gJ n p s (q_stk B n k p s)
  | 0, p, s, hp, hs => q_stS_gI (R := .inl p) hp (fun _ => ⟨Nat.le_refl _, hp⟩)
  | k + 1, p, s, hp, hs => q_stS_gI hp (fun h30 => q_stO_gI (fun p s hp hs => q_lv_gI k p s hp hs) hp h30)
theorem q_stk_pos : ∀ (k p s q : Nat) (its : List qIt), q_stk B n k p s = .inr (q, its) → 0 < its.length
  | 0, p, s, q, its, he => q_stS_pos (R := .inl p) (fun _ _ hc => by cases hc) he
  | k + 1, p, s, q, its, he => q_stS_pos (fun _ _ hc => q_stO_pos hc) he
theorem q_stk_no : ∀ (k p s : Nat), n ≤ p ∨ B p = 41 → q_stk B n k p s = .inl p
  | 0, p, s, h => q_stS_no h rfl
  | k + 1, p, s, h => q_stS_no h (q_stO_no h)
theorem q_ML (h : q_rdM B n r) : ∀ (k : Nat), k ≤ 6 → ∀ d, k + 1 ≤ d → q_YM B n g r (zS5 d 0) (nI (6 - k)) (q_stk B n k)
  | 0, hk, d, hd => by
    obtain ⟨d, rfl⟩ : ∃ d', d = d' + 1 := ⟨d - 1, by omega⟩
    exact q_Mstm (R := fun p _ => .inl p) h (fun _ _ _ => rfl) (fun _ _ _ => rfl) (fun hx => absurd rfl hx)
  | k + 1, hk, d, hd => by
    obtain ⟨d, rfl⟩ : ∃ d', d = d' + 1 := ⟨d - 1, by omega⟩
    have ih := q_ML h k (by omega) d (by omega)
    have ex : nI (6 - (k + 1)) + (1 : Int32) = nI (6 - k) := by rw [nI_1, show 6 - (k + 1) + 1 = 6 - k by omega]
    refine q_Mstm (R := fun p s => q_stO B n (q_lv B n k) p s) h (fun p s hx => ?_) (fun hx => ?_) (fun _ p c s fc fn f1 f2 hp hc hs hwd hb1 hb => ?_)
    · unfold q_stO
      rw [if_neg hx]
    · have := (nI_eq (b := 6) (by omega) (by decide)).mp hx
      omega
    · show q_okN g r c s (nI (6 - (k + 1))) fc fn _ (q_stO B n (q_lv B n k) p s)
      unfold q_stO
      rw [if_pos hwd]
      exact q_M106 (N := 99994 + 1 + 1) h (fun p s => q_stk_lv k p s) (by rw [ex]; exact ih) (fun p s hp hs => q_stk_gI k p s hp hs) (fun p s q its he => q_stk_pos k p s q its he) (fun p s hx => q_stk_no k p s hx) (by omega) hp (by omega) hs hb1 hb
theorem q_lp_skp (St : Nat → Nat → qRI) (m p s : Nat) (acc : List qIt) : q_lp B n St m (q_skp B n p) s acc = q_lp B n St m p s acc := by
  cases m <;> rw [q_lp, q_lp, q_skp_skp]
/-- behind the reading of a text -/
def q_okU (g : zSG) (r : zLS) (x1 x2 : Int32) (out : Option zRR) : Nat ⊕ List qIt → Prop
  | .inl q => ∃ p' c' s' w' o' fc' fn', out = some (.inl (some (.inl ((-2 : Int32) - nI q))), q_O g 3 0 (q_m r p' (nI q) c' s' w' o' fc' fn'))
  | .inr its => ∃ N p' fc' fn', 600 ≤ N ∧ out = z_run zM_X5_text zc_X5_text zk_X5_text N 157 [(0, .inr (.inl (3, 0, 0))), (4, .inl (((4 : Int32) * x1) + x2)), (5, .inl (0 : Int32))] (q_O g 3 0 (q_m r p' (-1) (nI (q_lm its)) (nI its.length) (0 : Int32) (0 : Int32) fc' fn')) (0, 0) ∧ q_spM fc' fn' 0 0 0 its
theorem q_M95f {N q : Nat} {x1 x2 p' c' s' w' o' : Int32} {f1 f2 : Nat → Int32} (hq : q ≤ 400) : q_okU g r x1 x2 (z_run zM_X5_text zc_X5_text zk_X5_text (N + 1) 95 [(0, .inr (.inl (3, 0, 0))), (1, .inl x1), (2, .inl x2)] (q_O g 3 0 (q_m r p' (nI q) c' s' w' o' f1 f2)) (0, 0)) (.inl q) := by
  have hb := q_nI_m1 (c := q) (by omega)
  rw [zu_X5_text_95, q_mfine0 hb, q_bI, if_pos rfl, q_mfine0 hb, q_bI, if_pos rfl, q_O_get, q_m4]
  exact ⟨_, _, _, _, _, _, _, rfl⟩
theorem q_M95 (h : q_rdM B n r) {x1 x2 : Int32} : ∀ (m p k N : Nat) (acc : List qIt) (f1 f2 : Nat → Int32), k + m = 31 → m + 700 ≤ N → p ≤ n → q_skp B n p = p → q_lm acc ≤ p → k ≤ acc.length → acc.length ≤ 30 → q_wfI acc → q_spM f1 f2 0 0 0 acc → q_okU g r x1 x2 (z_run zM_X5_text zc_X5_text zk_X5_text N 95 [(0, .inr (.inl (3, 0, 0))), (1, .inl x1), (2, .inl x2)] (q_O g 3 0 (q_m r (nI p) (-1) (nI (q_lm acc)) (nI acc.length) (0 : Int32) (0 : Int32) f1 f2)) (0, 0)) (match q_lp B n (q_stk B n 6) m p acc.length acc with
      | .inl r => .inl r
      | .inr (r, its) => if n ≤ r then .inr its else .inl r) := by
  have hn := h.1
  have hF := q_ML (g := g) h 6 (by decide) 8 (by decide)
  rw [show nI (6 - 6) = (0 : Int32) from rfl] at hF
  intro m
  induction m with
  | zero =>
    intro p k N acc f1 f2 hk hN hp hsk h1 h2 h3
    omega
  | succ m ih =>
    intro p k N acc f1 f2 hk hN hp hsk h1 h2 h3 hw hs
    obtain ⟨N, rfl⟩ : ∃ N', N = N' + 1 + 1 := ⟨N - 2, by omega⟩
    rw [zu_X5_text_95, q_mfine1, q_bI, if_neg (by decide), q_O_get, q_m2, q_m3, h.2.2, q_lp, hsk]
    by_cases c : n ≤ p
    · rw [if_pos (nI_le c (by omega)), q_mfine1, q_bI, if_neg (by decide), if_pos (Or.inl c)]
      dsimp only
      rw [if_pos c]
      exact ⟨N + 1, nI p, f1, f2, by omega, rfl, hs⟩
    · rw [if_neg (nI_ge (by omega) (by omega))]
      have hf := hF p (q_lm acc) acc.length f1 f2 hp (by omega) h3
      rw [hsk] at hf
      have hg := q_stk_gI (B := B) (n := n) 6 p acc.length hp h3
      have hp' := q_stk_pos (B := B) (n := n) 6 p acc.length
      by_cases c2 : B p = 41
      · rw [q_stk_no 6 p acc.length (Or.inr c2)] at hf
        obtain ⟨p', c', s', w', o', fc', fn', e⟩ := hf
        have hb := q_nI_m1 (c := p) (by omega)
        rw [if_pos (Or.inr c2), e, q_bV, q_mfine0 hb, q_bI, if_pos rfl]
        dsimp only
        rw [if_neg c]
        exact q_M95f (by omega)
      · rw [if_neg (fun hx => hx.elim c c2)]
        revert hf hg hp'
        cases q_stk B n 6 p acc.length with
        | inl q =>
          rintro ⟨p', c', s', w', o', fc', fn', e⟩ ⟨g1, g2⟩ -
          have hb := q_nI_m1 (c := q) (by omega)
          rw [e, q_bV, q_mfine0 hb, q_bI, if_pos rfl]
          exact q_M95f (by omega)
        | inr y =>
          obtain ⟨q, its⟩ := y
          rintro ⟨f3, f4, e, s2, b2⟩ ⟨g1, g2, g3, g4, g5⟩ hp'
          have h00 := hp' q its rfl
          have hq := q_skp_ge (B := B) (n := n) q
          have hqn := q_skp_le (B := B) g1
          have hi := ih (q_skp B n q) (k + 1) (N + 1) (acc ++ its) f3 f4 (by omega) (by omega) hqn (q_skp_skp q) (by rw [q_lm_app]; omega) (by rw [List.length_append]; omega) (by rw [List.length_append]; omega) (q_wfI_app _ _ hw g5) (q_spM_app acc its 0 0 hw (q_spM_cong acc 0 0 (fun i h5 h6 => b2 (0 + i) (by omega)) hs) (by rw [Nat.zero_add, Nat.zero_add]; exact s2))
          rw [q_lp_skp, q_lm_app, List.length_append] at hi
          rw [e, q_bV, q_mfine1, q_bI, if_neg (by decide), q_mhere h g1, q_bI]
          exact hi
end Mz
