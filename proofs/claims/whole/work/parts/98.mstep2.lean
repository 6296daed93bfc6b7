/-! ===== pure part: the reference reads statements, whole ===== -/
section My
variable {B : Nat → Nat} {n : Nat} {g : zSG} {r : zLS} {w : Int32} {fc fn : Nat → Int32}
theorem q_nwd {x p : Nat} {t : List Nat} (hx : x ≠ 41) (h : n ≤ p ∨ B p = 41) : ¬ q_wd B n (x :: t) p = true := by
  intro hc
  rw [q_wd, Bool.and_eq_true] at hc
  have := q_chr_lt hc.1
  omega
theorem q_stO_no {S : Nat → Nat → qRI} {p s : Nat} (h : n ≤ p ∨ B p = 41) : q_stO B n S p s = .inl p := by
  unfold q_stO
  rw [if_neg (q_nwd (by decide) h)]
theorem q_stS_no {R : qRI} {p s : Nat} (h : n ≤ p ∨ B p = 41) (hR : R = .inl p) : q_stS B n p s R = .inl p := by
  unfold q_stS
  rw [if_neg (q_nwd (by decide) h), if_neg (q_nwd (by decide) h), hR]
  split <;> rfl
theorem q_M169f {P : Nat → List zVV → zSG → Option zRR} {N q c s : Nat} {x4 p' c' s' w' o' : Int32} {f1 f2 : Nat → Int32} (hq : q ≤ 400) : q_okN g r c s w fc fn (z_run (zM_X5_statement P) zc_X5_statement zk_X5_statement (N + 1) 169 [(0, .inr (.inl (3, 0, 0))), (4, .inl x4)] (q_O g 3 0 (q_m r p' (nI q) c' s' w' o' f1 f2)) (0, 0)) (.inl q) := by
  have hb := q_nI_m1 (c := q) (by omega)
  rw [zu_X5_statement_169, q_mneed0 hb, q_bV, q_mfine0 hb, q_bI, if_pos rfl, q_gI, q_O_get, q_O_O, q_m7s]
  exact ⟨_, _, _, _, _, _, _, rfl⟩
theorem q_M146f {P : Nat → List zVV → zSG → Option zRR} {N q c s : Nat} {x4 p' c' s' w' o' : Int32} {f1 f2 : Nat → Int32} (hq : q ≤ 400) : q_okN g r c s w fc fn (z_run (zM_X5_statement P) zc_X5_statement zk_X5_statement (N + 1 + 1) 146 [(0, .inr (.inl (3, 0, 0))), (4, .inl x4)] (q_O g 3 0 (q_m r p' (nI q) c' s' w' o' f1 f2)) (0, 0)) (.inl q) := by
  have hb := q_nI_m1 (c := q) (by omega)
  rw [zu_X5_statement_146, q_mfine0 hb, q_bI, if_pos rfl]
  exact q_M169f hq
theorem q_wpm (w : Int32) : w + 1 - 1 = w := by
  apply Int32.toBitVec_inj.mp
  rw [Int32.toBitVec_sub, Int32.toBitVec_add, BitVec.add_sub_cancel]
theorem q_M169 (h : q_rdM B n r) {P : Nat → List zVV → zSG → Option zRR} {N p c s : Nat} {f1 f2 : Nat → Int32} {l : List (Nat × Nat)} {body : List qIt} (hp : p ≤ n) (hc : c + 1 + l.length + 1 + q_lm body ≤ 400) (hb1 : f1 c = nI 14 ∧ f2 c = nI s) (hl : q_spMO f1 f2 0 (c + 1) l) (h13 : f1 (c + 1 + l.length) = nI 13) (hbody : q_spM f1 f2 0 (s + 1) (c + 1 + l.length + 1) body) (hb : ∀ i, i < c → f1 i = fc i ∧ f2 i = fn i) : q_okN g r c s w fc fn (z_run (zM_X5_statement P) zc_X5_statement zk_X5_statement (N + 1) 169 [(0, .inr (.inl (3, 0, 0))), (4, .inl (nI (c + 1 + l.length)))] (q_O g 3 0 (q_m r (nI p) (-1) (nI (c + 1 + l.length + 1 + q_lm body)) (nI (s + 1 + body.length)) (w + 1) (0 : Int32) f1 f2)) (0, 0)) (match q_end B n 41 p with
      | .inl r => .inl r
      | .inr r => .inr (r, (13, l, body.length) :: body)) := by
  have hn := h.1
  have t41 := q_mneed (g := g) (c := nI (c + 1 + l.length + 1 + q_lm body)) (s := nI (s + 1 + body.length)) (w := w + 1) (o := (0 : Int32)) (fc := f1) (fn := f2) h hp (k := 41) (by decide) (by decide)
  rw [zu_X5_statement_169, show zF_X5_need [.inr (.inl (3, 0, 0)), .inl (41 : Int32)] (q_O g 3 0 (q_m r (nI p) (-1) (nI (c + 1 + l.length + 1 + q_lm body)) (nI (s + 1 + body.length)) (w + 1) (0 : Int32) f1 f2)) = _ from t41]
  unfold q_end
  by_cases c9 : q_chr B n (q_skp B n p) 41 = true
  · have hi : z_inb (nI (c + 1 + l.length)) 500 := q_inb' (by omega) (by decide)
    rw [if_pos c9, if_pos c9, q_bV, q_mfine1, q_bI, if_neg (by decide), if_pos hi, nI_clamp (by omega)]
    simp only [q_gI, q_gA, q_O_get, q_O_O, q_m11r, q_m5, q_m11s, q_m7, q_m7s, q_wpm]
    refine ⟨f1, upd f2 (c + 1 + l.length) (nI (c + 1 + l.length + 1 + q_lm body)), ?_, ⟨⟨?_, ?_⟩, ?_, ?_, ?_, ?_⟩, fun i hi => ⟨(hb i hi).1, ?_⟩⟩
    · rw [show c + q_lm ((13, l, body.length) :: body) = c + 1 + l.length + 1 + q_lm body by rw [q_lm]; dsimp only; omega, show s + ((13, l, body.length) :: body).length = s + 1 + body.length by rw [List.length_cons]; omega]
    · rw [Nat.zero_add]
      exact hb1.1
    · rw [Nat.zero_add, pk_un (by omega)]
      exact hb1.2
    · exact q_spMO_cong l (c + 1) (fun i h5 h6 => ⟨rfl, pk_un (by omega)⟩) hl
    · rw [Nat.zero_add]
      exact h13
    · intro _
      dsimp only
      rw [Nat.zero_add, List.take_length]
      exact pk_us
    · exact q_spM_cong body (s + 1) (c + 1 + l.length + 1) (fun i h5 h6 => ⟨rfl, pk_un (by omega)⟩) hbody
    · rw [pk_un (by omega)]
      exact (hb i hi).2
  · have hbq := q_nI_m1 (c := q_skp B n p) (by have := q_skp_le (B := B) hp; omega)
    rw [if_neg c9, if_neg c9, q_bV, q_mfine0 hbq, q_bI, if_pos rfl, q_gI, q_O_get, q_O_O, q_m7s]
    exact ⟨_, _, _, _, _, _, _, rfl⟩
theorem q_M146 (h : q_rdM B n r) {P : Nat → List zVV → zSG → Option zRR} {St : Nat → Nat → qRI} (hF : q_YM B n g r (P 0) (w + 1) St) (hG : ∀ p s, p ≤ n → s ≤ 30 → q_gJ n p s (St p s)) (hpos : ∀ p s q its, St p s = .inr (q, its) → 0 < its.length) (hno : ∀ p s, n ≤ p ∨ B p = 41 → St p s = .inl p) {c s p0 : Nat} {l : List (Nat × Nat)} (hc0 : c + 1 + l.length + 1 ≤ p0) : ∀ (m p k N : Nat) (acc : List qIt) (f1 f2 : Nat → Int32), k + m = 31 → m + 3 ≤ N → p ≤ n → p0 + q_lm acc ≤ p → k ≤ acc.length → s + 1 + acc.length ≤ 30 → q_wfI acc → (f1 c = nI 14 ∧ f2 c = nI s) → q_spMO f1 f2 0 (c + 1) l → f1 (c + 1 + l.length) = nI 13 → q_spM f1 f2 0 (s + 1) (c + 1 + l.length + 1) acc → (∀ i, i < c → f1 i = fc i ∧ f2 i = fn i) → q_okN g r c s w fc fn (z_run (zM_X5_statement P) zc_X5_statement zk_X5_statement N 146 [(0, .inr (.inl (3, 0, 0))), (4, .inl (nI (c + 1 + l.length)))] (q_O g 3 0 (q_m r (nI p) (-1) (nI (c + 1 + l.length + 1 + q_lm acc)) (nI (s + 1 + acc.length)) (w + 1) (0 : Int32) f1 f2)) (0, 0)) (match q_lp B n St m p (s + 1 + acc.length) acc with
      | .inl r => .inl r
      | .inr (r, body) => match q_end B n 41 r with
        | .inl r => .inl r
        | .inr r => .inr (r, (13, l, body.length) :: body)) := by
  have hn := h.1
  have hB := fun i hi => (h.2.1 i hi).1
  intro m
  induction m with
  | zero =>
    intro p k N acc f1 f2 hk hN hp h1 h2 h3
    omega
  | succ m ih =>
    intro p k N acc f1 f2 hk hN hp h1 h2 h3 hw hb1 hl h13 hs hb
    obtain ⟨N, rfl⟩ : ∃ N', N = N' + 1 + 1 + 1 := ⟨N - 3, by omega⟩
    have hq := q_skp_ge (B := B) (n := n) p
    have hqn := q_skp_le (B := B) hp
    have e41 := q_hv_eq hB (i := q_skp B n p) (c := 41) (by decide) (by decide)
    rw [zu_X5_statement_146, q_mfine1, q_bI, if_neg (by decide), q_mhere h hp, q_bI, q_lp]
    by_cases c2 : q_chr B n (q_skp B n p) 41 = true
    · rw [if_pos (show q_hv B n (q_skp B n p) = (41 : Int32) from e41.mpr c2), if_pos (Or.inr (q_chr_lt c2).2)]
      exact q_M169 h hqn (by omega) hb1 hl h13 hs hb
    · rw [if_neg (show ¬ q_hv B n (q_skp B n p) = (41 : Int32) from fun hc => c2 (e41.mp hc))]
      have hf := hF (q_skp B n p) (c + 1 + l.length + 1 + q_lm acc) (s + 1 + acc.length) f1 f2 hqn (by omega) (by omega)
      rw [q_skp_skp] at hf
      have hg := hG (q_skp B n p) (s + 1 + acc.length) hqn (by omega)
      by_cases cn : n ≤ q_skp B n p
      · rw [hno _ _ (Or.inl cn)] at hf
        obtain ⟨p', c', s', w', o', fc', fn', e⟩ := hf
        rw [if_pos (Or.inl cn), e, q_bV]
        dsimp only
        unfold q_end
        rw [q_skp_skp, if_neg c2]
        exact q_M146f (by omega)
      · have c3 : ¬ (n ≤ q_skp B n p ∨ B (q_skp B n p) = 41) := by
          rintro (h1 | h1)
          · exact cn h1
          · refine c2 ?_
            unfold q_chr
            simp only [Bool.and_eq_true, decide_eq_true_eq]
            exact ⟨by omega, h1⟩
        rw [if_neg c3]
        have hp' := hpos (q_skp B n p) (s + 1 + acc.length)
        revert hf hg hp'
        cases St (q_skp B n p) (s + 1 + acc.length) with
        | inl q =>
          rintro ⟨p', c', s', w', o', fc', fn', e⟩ ⟨g1, g2⟩ -
          rw [e, q_bV]
          exact q_M146f (by omega)
        | inr y =>
          obtain ⟨q, its⟩ := y
          rintro ⟨f3, f4, e, s2, b2⟩ ⟨g1, g2, g3, g4, g5⟩ hp'
          have h00 := hp' q its rfl
          have hi := ih q (k + 1) (N + 1 + 1) (acc ++ its) f3 f4 (by omega) (by omega) g1 (by rw [q_lm_app]; omega) (by rw [List.length_append]; omega) (by rw [List.length_append]; omega) (q_wfI_app _ _ hw g5) (by rw [(b2 c (by omega)).1, (b2 c (by omega)).2]; exact hb1) (q_spMO_cong l (c + 1) (fun i h5 h6 => b2 (0 + i) (by omega)) hl) (by rw [(b2 _ (by omega)).1]; exact h13) (q_spM_app acc its (s + 1) _ hw (q_spM_cong acc (s + 1) _ (fun i h5 h6 => b2 (0 + i) (by omega)) hs) s2) (fun i hi => by rw [(b2 i (by omega)).1, (b2 i (by omega)).2]; exact hb i hi)
          rw [q_lm_app, List.length_append, show c + 1 + l.length + 1 + (q_lm acc + q_lm its) = c + 1 + l.length + 1 + q_lm acc + q_lm its by omega, show s + 1 + (acc.length + its.length) = s + 1 + acc.length + its.length by omega] at hi
          rw [e, q_bV]
          exact hi
theorem q_M106 (h : q_rdM B n r) {P : Nat → List zVV → zSG → Option zRR} {S St : Nat → Nat → qRI} (hS : ∀ p s, S p s = q_lp B n St 31 p s []) (hF : q_YM B n g r (P 0) (w + 1) St) (hG : ∀ p s, p ≤ n → s ≤ 30 → q_gJ n p s (St p s)) (hpos : ∀ p s q its, St p s = .inr (q, its) → 0 < its.length) (hno : ∀ p s, n ≤ p ∨ B p = 41 → St p s = .inl p) {p c s N : Nat} {f1 f2 : Nat → Int32} (hN : 40 ≤ N) (hp : p ≤ n) (hc : c + 4 ≤ p) (hs : s < 30) (hb1 : f1 c = nI 14 ∧ f2 c = nI s) (hb : ∀ i, i < c → f1 i = fc i ∧ f2 i = fn i) : q_okN g r c s w fc fn (z_run (zM_X5_statement P) zc_X5_statement zk_X5_statement (N + 1) 106 [(0, .inr (.inl (3, 0, 0)))] (q_O g 3 0 (q_m r (nI p) (-1) (nI (c + 1)) (nI (s + 1)) w (0 : Int32) f1 f2)) (0, 0)) (match q_cmp B n (q_pT B n 12) p with
      | .inl r => .inl r
      | .inr (r, l) => match q_end B n 40 r with
        | .inl r => .inl r
        | .inr r => match S r (s + 1) with
          | .inl r => .inl r
          | .inr (r, body) => match q_end B n 41 r with
            | .inl r => .inl r
            | .inr r => .inr (r, (13, l, body.length) :: body)) := by
  have hn := h.1
  obtain ⟨N, rfl⟩ : ∃ N', N = N' + 1 + 1 := ⟨N - 2, by omega⟩
  rw [zu_X5_statement_106, q_gI, q_O_get, q_O_O, q_m7, q_m7s]
  have hf := q_MCmp (g := g) h p (c + 1) (nI (s + 1)) (w + 1) f1 f2 hp (by omega)
  have hg := q_cmpT (B := B) hp
  revert hf hg
  cases q_cmp B n (q_pT B n 12) p with
  | inl q =>
    rintro ⟨p', c', s', w', o', fc', fn', e⟩ ⟨g1, g2⟩
    have hb := q_nI_m1 (c := q) (by omega)
    rw [e, q_bV, q_mneed0 hb, q_bV, q_mfine0 hb, q_bI, if_pos rfl]
    exact q_M146f (by omega)
  | inr y =>
    obtain ⟨q, l⟩ := y
    rintro ⟨f3, f4, e, s2, b2⟩ ⟨g1, g2, g3, -, -⟩
    have t40 := q_mneed (g := g) (c := nI (c + 1 + l.length)) (s := nI (s + 1)) (w := w + 1) (o := (0 : Int32)) (fc := f3) (fn := f4) h g1 (k := 40) (by decide) (by decide)
    rw [e, q_bV, show zF_X5_need [.inr (.inl (3, 0, 0)), .inl (40 : Int32)] (q_O g 3 0 (q_m r (nI q) (-1) (nI (c + 1 + l.length)) (nI (s + 1)) (w + 1) (0 : Int32) f3 f4)) = _ from t40]
    dsimp only
    have hq := q_skp_ge (B := B) (n := n) q
    conv => arg 9; unfold q_end
    by_cases c9 : q_chr B n (q_skp B n q) 40 = true
    · have hlt := (q_chr_lt c9).1
      rw [if_pos c9, if_pos c9, q_bV, q_mfine1, q_bI, if_neg (by decide), show zF_X5_emit [.inr (.inl (3, 0, 0)), .inl (13 : Int32), .inl (0 : Int32)] (q_O g 3 0 (q_m r (nI (q_skp B n q + 1)) (-1) (nI (c + 1 + l.length)) (nI (s + 1)) (w + 1) (0 : Int32) f3 f4)) = _ from q_memit (show c + 1 + l.length < 500 by omega) 13 0, q_bV, q_O_get, q_m5]
      dsimp only
      rw [hS]
      have hi := q_M146 (fc := fc) (fn := fn) (w := w) (c := c) (s := s) (l := l) (p0 := q_skp B n q + 1) h hF hG hpos hno (by omega) 31 (q_skp B n q + 1) 0 (N + 1 + 1) [] (upd f3 (c + 1 + l.length) 13) (upd f4 (c + 1 + l.length) 0) (by omega) (by omega) (by omega) (Nat.le_refl _) (Nat.le_refl _) (by simp only [List.length_nil]; omega) trivial ⟨by rw [pk_un (by omega), (b2 c (by omega)).1]; exact hb1.1, by rw [pk_un (by omega), (b2 c (by omega)).2]; exact hb1.2⟩ (q_spMO_cong l (c + 1) (fun i h5 h6 => ⟨pk_un (by omega), pk_un (by omega)⟩) s2) pk_us trivial (fun i hi => by rw [pk_un (by omega), pk_un (by omega), (b2 i (by omega)).1, (b2 i (by omega)).2]; exact hb i hi)
      exact hi
    · have hbq := q_nI_m1 (c := q_skp B n q) (by have := q_skp_le (B := B) g1; omega)
      rw [if_neg c9, if_neg c9, q_bV, q_mfine0 hbq, q_bI, if_pos rfl]
      exact q_M146f (by have := q_skp_le (B := B) g1; omega)
end My
