/-! ===== pure part: the reference reads a term ===== -/
def q_restM (P : Nat → List zVV → zSG → Option zRR) (N : Nat) (V : Int64) (x : Int32) (g5 : zSG) : Option zRR := (if x = (40 : Int32) then z_run (zM_X5_simple P) zc_X5_simple zk_X5_simple N 44 [(0, .inr (.inl (3, 0, 0))), (1, .inl x), (2, .inr (.inr V))] g5 (0, 0) else (if (lg_cmp V (7348 : Int64)) = 0 then z_run (zM_X5_simple P) zc_X5_simple zk_X5_simple N 44 [(0, .inr (.inl (3, 0, 0))), (1, .inl x), (2, .inr (.inr V))] g5 (0, 0) else (if (lg_cmp V (16832373893 : Int64)) = 0 then z_run (zM_X5_simple P) zc_X5_simple zk_X5_simple N 44 [(0, .inr (.inl (3, 0, 0))), (1, .inl x), (2, .inr (.inr V))] g5 (0, 0) else z_run (zM_X5_simple P) zc_X5_simple zk_X5_simple N 145 [(0, .inr (.inl (3, 0, 0))), (2, .inr (.inr V))] g5 (0, 0))))
section Mv
variable {B : Nat → Nat} {n : Nat} {g : zSG} {r : zLS} {s w o : Int32} {fc fn : Nat → Int32}
def q_Vw (B : Nat → Nat) (n q : Nat) : Int64 := q_cv (q_lrw B n (n - q) q).reverse
theorem q_dG (q : Nat) : lg_cmp (q_Vw B n q) (7348 : Int64) = 0 ↔ q_wd B n [103, 101, 116] q = true := q_wdec (by decide) (q_lt_dec (by decide)) (by decide) (by decide) q
theorem q_dO (q : Nat) : lg_cmp (q_Vw B n q) (16832373893 : Int64) = 0 ↔ q_wd B n [111, 117, 116, 115, 105, 100, 101] q = true := q_wdec (by decide) (q_lt_dec (by decide)) (by decide) (by decide) q
theorem q_dA (q : Nat) : lg_cmp (q_Vw B n q) (1 : Int64) = 0 ↔ q_wd B n [97] q = true := q_wdec (by decide) (q_lt_dec (by decide)) (by decide) (by decide) q
theorem q_dB (q : Nat) : lg_cmp (q_Vw B n q) (2 : Int64) = 0 ↔ q_wd B n [98] q = true := q_wdec (by decide) (q_lt_dec (by decide)) (by decide) (by decide) q
theorem q_dI (q : Nat) : lg_cmp (q_Vw B n q) (292 : Int64) = 0 ↔ q_wd B n [105, 100] q = true := q_wdec (by decide) (q_lt_dec (by decide)) (by decide) (by decide) q
/-- one word laid: a, b, id -/
theorem q_Mone (h : q_rdM B n r) {P : Nat → List zVV → zSG → Option zRR} {N q c x : Nat} {t : List Nat} (hq : q ≤ n) (hc : c ≤ q) (hx : (x :: t = [97] ∨ x :: t = [98]) ∨ x :: t = [105, 100]) (hk : q_wd B n (x :: t) q = true) : q_okM g r c s w o fc fn (q_restM P (N + 1 + 1) (q_Vw B n q) (q_hv B n q) (q_O g 3 0 (q_m r (nI q) (-1) (nI c) s w o fc fn))) (.inr (q + (x :: t).length, [(if x :: t = [97] then 1 else if x :: t = [98] then 2 else 3, 0)])) := by
  have hn := h.1
  have hB := fun i hi => (h.2.1 i hi).1
  have e40 := q_hv_eq hB (i := q) (c := 40) (by decide) (by decide)
  have hlx : q_lt (x :: t) := by
    rcases hx with (e | e) | e <;> rw [e] <;> exact q_lt_dec (by decide)
  have n40 : ¬ q_hv B n q = (40 : Int32) := fun hc => q_wd_40 (hlx x (List.mem_cons_self ..)).1 hk (e40.mp hc)
  have nG : ¬ lg_cmp (q_Vw B n q) (7348 : Int64) = 0 := fun hc => by
    have e := q_wd_un hlx (q_lt_dec (by decide)) hk ((q_dG q).mp hc)
    rcases hx with (e' | e') | e' <;> rw [e'] at e <;> exact absurd e (by decide)
  have nO : ¬ lg_cmp (q_Vw B n q) (16832373893 : Int64) = 0 := fun hc => by
    have e := q_wd_un hlx (q_lt_dec (by decide)) hk ((q_dO q).mp hc)
    rcases hx with (e' | e') | e' <;> rw [e'] at e <;> exact absurd e (by decide)
  have hlen := q_wd_len hlx hk
  have hl : q + (x :: t).length ≤ n := by
    rcases q_wd_lt _ _ hk with h | h
    · exact h
    · cases h
  have hl0 : (x :: t).length = t.length + 1 := rfl
  have hp := q_mpass (g := g) (b := -1) (c := nI c) (s := s) (w := w) (o := o) (fc := fc) (fn := fn) h hq
  rw [hlen] at hp
  have one : ∀ k : Nat, q_okM g r c s w o fc fn (z_bV (zF_X5_emit [.inr (.inl (3, 0, 0)), .inl (nI k), .inl (0 : Int32)] (q_O g 3 0 (q_m r (nI (q + (x :: t).length)) (-1) (nI c) s w o fc fn))) (fun g4 => some (.inl none, g4))) (.inr (q + (x :: t).length, [(k, 0)])) := by
    intro k
    rw [q_memit (by omega), q_bV]
    refine ⟨_, _, rfl, ⟨⟨?_, ?_⟩, trivial⟩, fun i hi => ⟨pk_un (by omega), pk_un (by omega)⟩⟩
    · rw [Nat.zero_add]
      exact pk_us
    · rw [Nat.zero_add]
      exact pk_us
  unfold q_restM
  rw [if_neg n40, if_neg nG, if_neg nO, zu_X5_simple_145]
  have go : q_okM g r c s w o fc fn (z_run (zM_X5_simple P) zc_X5_simple zk_X5_simple (N + 1) 176 [(0, .inr (.inl (3, 0, 0))), (2, .inr (.inr (q_Vw B n q)))] (q_O g 3 0 (q_m r (nI q) (-1) (nI c) s w o fc fn)) (0, 0)) (.inr (q + (x :: t).length, [(if x :: t = [97] then 1 else if x :: t = [98] then 2 else 3, 0)])) := by
    rw [zu_X5_simple_176, hp, q_bV]
    by_cases cA : x :: t = [97]
    · rw [if_pos ((q_dA q).mpr (cA ▸ hk)), if_pos cA]
      exact one 1
    · rw [if_neg (fun hc => cA (q_wd_un hlx (q_lt_dec (by decide)) hk ((q_dA q).mp hc))), if_neg cA]
      by_cases cB : x :: t = [98]
      · rw [if_pos ((q_dB q).mpr (cB ▸ hk)), if_pos cB]
        exact one 2
      · rw [if_neg (fun hc => cB (q_wd_un hlx (q_lt_dec (by decide)) hk ((q_dB q).mp hc))), if_neg cB]
        exact one 3
  by_cases cA : lg_cmp (q_Vw B n q) (1 : Int64) = 0
  · rw [if_pos cA]
    exact go
  · rw [if_neg cA]
    by_cases cB : lg_cmp (q_Vw B n q) (2 : Int64) = 0
    · rw [if_pos cB]
      exact go
    · have cI : lg_cmp (q_Vw B n q) (292 : Int64) = 0 := by
        rcases hx with (e | e) | e
        · exact absurd ((q_dA q).mpr (e ▸ hk)) cA
        · exact absurd ((q_dB q).mpr (e ▸ hk)) cB
        · exact (q_dI q).mpr (e ▸ hk)
      rw [if_neg cB, if_pos cI]
      exact go
theorem q_Mtms (h : q_rdM B n r) {P : Nat → List zVV → zSG → Option zRR} {N p c : Nat} {R : qRes} (hp : p ≤ n) (hc : c ≤ p) (hR : ¬ q_wd B n [97] (q_skp B n p) = true → ¬ q_wd B n [98] (q_skp B n p) = true → ¬ q_wd B n [105, 100] (q_skp B n p) = true → q_okM g r c s w o fc fn (q_restM P (N + 1 + 1 + 1) (q_Vw B n (q_skp B n p)) (q_hv B n (q_skp B n p)) (q_O g 3 0 (q_m r (nI (q_skp B n p)) (-1) (nI c) s w o fc fn))) R) : q_okM g r c s w o fc fn (z_run (zM_X5_simple P) zc_X5_simple zk_X5_simple (N + 1 + 1 + 1 + 1) 0 [(0, .inr (.inl (3, 0, 0)))] (q_O g 3 0 (q_m r (nI p) (-1) (nI c) s w o fc fn)) (0, 0)) (q_tms B n (q_skp B n p) R) := by
  have hn := h.1
  have hB := fun i hi => (h.2.1 i hi).1
  have hq := q_skp_ge (B := B) (n := n) p
  have hqn := q_skp_le (B := B) hp
  rw [zu_X5_simple_0, q_mhere h hp, q_bI, q_mdig hB, q_bI]
  unfold q_tms
  cases ht : q_dgt B n (q_skp B n p) with
  | true =>
    rw [if_neg (by decide), if_pos rfl]
    exact q_okM_b (q_mdigs h (by omega) hqn)
  | false =>
    have hw := q_mword (g := g) (b := -1) (c := nI c) (s := s) (w := w) (o := o) (fc := fc) (fn := fn) h hqn
    rw [q_skp_skp] at hw
    rw [if_pos (by decide), if_neg (by decide), hw, q_bL]
    show q_okM g r c s w o fc fn (q_restM P (N + 1 + 1 + 1) (q_Vw B n (q_skp B n p)) (q_hv B n (q_skp B n p)) (q_O g 3 0 (q_m r (nI (q_skp B n p)) (-1) (nI c) s w o fc fn))) _
    by_cases c1 : q_wd B n [97] (q_skp B n p) = true
    · rw [if_pos c1]
      have h1 := q_Mone (s := s) (w := w) (o := o) (fc := fc) (fn := fn) (g := g) (P := P) (N := N + 1) (x := 97) (t := []) (c := c) h hqn (by omega) (Or.inl (Or.inl rfl)) c1
      rw [if_pos rfl] at h1
      exact h1
    · rw [if_neg c1]
      by_cases c2 : q_wd B n [98] (q_skp B n p) = true
      · rw [if_pos c2]
        have h1 := q_Mone (s := s) (w := w) (o := o) (fc := fc) (fn := fn) (g := g) (P := P) (N := N + 1) (x := 98) (t := []) (c := c) h hqn (by omega) (Or.inl (Or.inr rfl)) c2
        rw [if_neg (by decide), if_pos rfl] at h1
        exact h1
      · rw [if_neg c2]
        by_cases c3 : q_wd B n [105, 100] (q_skp B n p) = true
        · rw [if_pos c3]
          have h1 := q_Mone (s := s) (w := w) (o := o) (fc := fc) (fn := fn) (g := g) (P := P) (N := N + 1) (x := 105) (t := [100]) (c := c) h hqn (by omega) (Or.inr rfl) c3
          rw [if_neg (by decide), if_neg (by decide)] at h1
          exact h1
        · rw [if_neg c3]
          exact hR c1 c2 c3
end Mv
