/-! ===== pure part: what a text says ===== -/
abbrev qRes : Type := Nat ⊕ (Nat × List (Nat × Nat))
abbrev qRI : Type := Nat ⊕ (Nat × List qIt)
section Ps
variable (B : Nat → Nat) (n : Nat)
def q_sp : Nat → Nat → Nat
  | 0, p => p
  | m + 1, p => if p < n ∧ B p = 32 then q_sp m (p + 1) else p
def q_skp (p : Nat) : Nat := q_sp B n (n - p) p
def q_chr (p c : Nat) : Bool := decide (p < n) && decide (B p = c)
def q_dgt (p : Nat) : Bool := decide (p < n) && (decide (48 ≤ B p) && decide (B p ≤ 57))
def q_ltr (p : Nat) : Bool := decide (p < n) && (decide (97 ≤ B p) && decide (B p ≤ 122))
def q_wd : List Nat → Nat → Bool
  | [], p => !q_ltr B n p
  | c :: r, p => q_chr B n p c && q_wd r (p + 1)
def q_dg : Nat → Nat → Nat → qRes
  | 0, p, v => if q_dgt B n p then .inl p else .inr (p, [(0, v)])
  | m + 1, p, v => if q_dgt B n p then q_dg m (p + 1) (v * 10 + (B p - 48)) else .inr (p, [(0, v)])
def q_jn (p : Nat) : Nat := if q_chr B n p 43 then 6 else if q_chr B n p 45 then 7 else if q_chr B n p 42 then 8 else 0
def q_sm (T : Nat → qRes) : Nat → Nat → List (Nat × Nat) → qRes
  | 0, p, acc => .inr (q_skp B n p, acc)
  | m + 1, p, acc => if q_jn B n (q_skp B n p) = 0 then .inr (q_skp B n p, acc) else match T (q_skp B n p + 1) with
    | .inl r => .inl r
    | .inr (r, l) => q_sm T m r (acc ++ l ++ [(q_jn B n (q_skp B n p), 0)])
def q_sum (T : Nat → qRes) (p : Nat) : qRes := match T p with
  | .inl r => .inl r
  | .inr (r, l) => q_sm B n T 400 r l
def q_cmp (T : Nat → qRes) (p : Nat) : qRes := match q_sum B n T p with
  | .inl r => .inl r
  | .inr (q, l) => if q_chr B n q 60 then (match q_sum B n T (q + 1) with
      | .inl r => .inl r
      | .inr (r, l') => .inr (r, l ++ l' ++ [(9, 0)])) else if q_chr B n q 61 then (match q_sum B n T (q + 1) with
      | .inl r => .inl r
      | .inr (r, l') => .inr (r, l ++ l' ++ [(10, 0)])) else .inr (q, l)
def q_tmo (T : Nat → qRes) (p : Nat) : qRes := if q_wd B n [103, 101, 116] p then (match T (p + 3) with
      | .inl r => .inl r
      | .inr (r, l) => .inr (r, l ++ [(4, 0)])) else if q_wd B n [111, 117, 116, 115, 105, 100, 101] p then (match T (p + 7) with
      | .inl r => .inl r
      | .inr (r, l) => .inr (r, l ++ [(5, 0)])) else if q_chr B n p 40 then (match q_cmp B n T (p + 1) with
      | .inl r => .inl r
      | .inr (r, l) => if q_chr B n (q_skp B n r) 41 then .inr (q_skp B n r + 1, l) else .inl (q_skp B n r)) else .inl p
def q_tms (p : Nat) (R : qRes) : qRes := if q_dgt B n p then q_dg B n 6 p 0 else if q_wd B n [97] p then .inr (p + 1, [(1, 0)]) else if q_wd B n [98] p then .inr (p + 1, [(2, 0)]) else if q_wd B n [105, 100] p then .inr (p + 2, [(3, 0)]) else R
def q_pT : Nat → Nat → qRes
  | 0, p => q_tms B n (q_skp B n p) (.inl (q_skp B n p))
  | o + 1, p => q_tms B n (q_skp B n p) (q_tmo B n (q_pT o) (q_skp B n p))
def q_end (c p : Nat) : Nat ⊕ Nat := if q_chr B n (q_skp B n p) c then .inr (q_skp B n p + 1) else .inl (q_skp B n p)
def q_stO (S : Nat → Nat → qRI) (p s : Nat) : qRI := if q_wd B n [119, 104, 101, 110] p then (match q_cmp B n (q_pT B n 12) (p + 4) with
      | .inl r => .inl r
      | .inr (r, l) => match q_end B n 40 r with
        | .inl r => .inl r
        | .inr r => match S r (s + 1) with
          | .inl r => .inl r
          | .inr (r, body) => match q_end B n 41 r with
            | .inl r => .inl r
            | .inr r => .inr (r, (13, l, body.length) :: body)) else .inl p
def q_stS (p s : Nat) (R : qRI) : qRI := if 30 ≤ s then .inl p else if q_wd B n [112, 117, 116] p then (match q_sum B n (q_pT B n 12) (p + 3) with
      | .inl r => .inl r
      | .inr (r, l) => match q_sum B n (q_pT B n 12) r with
        | .inl r => .inl r
        | .inr (r, l') => match q_end B n 59 r with
          | .inl r => .inl r
          | .inr r => .inr (r, [(11, l ++ l', 0)])) else if q_wd B n [115, 97, 121] p then (match q_cmp B n (q_pT B n 12) (p + 3) with
      | .inl r => .inl r
      | .inr (r, l) => match q_end B n 59 r with
        | .inl r => .inl r
        | .inr r => .inr (r, [(12, l, 0)])) else R
def q_lp (St : Nat → Nat → qRI) : Nat → Nat → Nat → List qIt → qRI
  | 0, p, _, _ => .inl (q_skp B n p)
  | m + 1, p, s, acc => if n ≤ q_skp B n p ∨ B (q_skp B n p) = 41 then .inr (q_skp B n p, acc) else match St (q_skp B n p) s with
    | .inl r => .inl r
    | .inr (r, its) => q_lp St m r (s + its.length) (acc ++ its)
def q_lv : Nat → Nat → Nat → qRI
  | 0, p, s => q_lp B n (fun p s => q_stS B n p s (.inl p)) 31 p s []
  | h + 1, p, s => q_lp B n (fun p s => q_stS B n p s (q_stO B n (q_lv h) p s)) 31 p s []
def q_txt : Nat ⊕ List qIt := match q_lv B n 6 0 0 with
  | .inl r => .inl r
  | .inr (r, its) => if n ≤ r then .inr its else .inl r
end Ps
/-! what is sure of it -/
section Pf
variable {B : Nat → Nat} {n : Nat}
theorem q_sp_ge : ∀ (m p : Nat), p ≤ q_sp B n m p ∧ q_sp B n m p ≤ p + m
  | 0, p => ⟨Nat.le_refl _, Nat.le_refl _⟩
  | m + 1, p => by
    rw [q_sp]
    split
    · have := q_sp_ge m (p + 1)
      exact ⟨by omega, by omega⟩
    · exact ⟨Nat.le_refl _, by omega⟩
theorem q_sp_stop : ∀ (m p : Nat), n ≤ p + m → ¬ (q_sp B n m p < n ∧ B (q_sp B n m p) = 32)
  | 0, p, h => fun hc => by
    rw [q_sp] at hc
    omega
  | m + 1, p, h => by
    rw [q_sp]
    split
    · exact q_sp_stop m (p + 1) (by omega)
    · rename_i hc
      exact hc
theorem q_skp_ge (p : Nat) : p ≤ q_skp B n p := (q_sp_ge _ _).1
theorem q_skp_le {p : Nat} (h : p ≤ n) : q_skp B n p ≤ n := by
  have := (q_sp_ge (B := B) (n := n) (n - p) p).2
  unfold q_skp
  omega
theorem q_skp_stop (p : Nat) : ¬ (q_skp B n p < n ∧ B (q_skp B n p) = 32) := q_sp_stop _ _ (by omega)
theorem q_skp_id {p : Nat} (h : ¬ (p < n ∧ B p = 32)) : q_skp B n p = p := by
  unfold q_skp
  cases n - p with
  | zero => rfl
  | succ m => rw [q_sp, if_neg h]
theorem q_skp_skp (p : Nat) : q_skp B n (q_skp B n p) = q_skp B n p := q_skp_id (q_skp_stop p)
theorem q_chr_lt {p c : Nat} (h : q_chr B n p c = true) : p < n ∧ B p = c := by
  unfold q_chr at h
  simpa using h
theorem q_dgt_lt {p : Nat} (h : q_dgt B n p = true) : p < n ∧ 48 ≤ B p ∧ B p ≤ 57 := by
  unfold q_dgt at h
  simpa using h
theorem q_wd_lt : ∀ (w : List Nat) (p : Nat), q_wd B n w p = true → p + w.length ≤ n ∨ w = []
  | [], p, _ => Or.inr rfl
  | c :: r, p, h => by
    rw [q_wd, Bool.and_eq_true] at h
    have h1 := q_chr_lt h.1
    left
    rcases q_wd_lt r (p + 1) h.2 with h2 | h2
    · simp only [List.length_cons]
      omega
    · subst h2
      simp only [List.length_cons, List.length_nil]
      omega
theorem q_deps_app : ∀ (l l' : List (Nat × Nat)) (d : Nat), q_deps (l ++ l') d = match q_deps l d with | none => none | some e => q_deps l' e
  | [], l', d => rfl
  | o :: r, l', d => by
    rw [List.cons_append, q_deps, q_deps]
    cases q_dep o.1 d with
    | none => rfl
    | some e => exact q_deps_app r l' e
/-- what a good result is: it moves on, its depth, its words, its length -/
def q_gd (p d : Nat) : qRes → Prop
  | .inl r => p ≤ r ∧ r ≤ n
  | .inr (q, l) => q ≤ n ∧ p + l.length ≤ q ∧ 0 < l.length ∧ q_wfO l ∧ q_deps l d = some (d + 1)
theorem q_wfO_app {l l' : List (Nat × Nat)} (h : q_wfO l) (h' : q_wfO l') : q_wfO (l ++ l') := fun o ho => (List.mem_append.mp ho).elim (h o) (h' o)
theorem q_wfO_one {a b : Nat} (ha : a ≤ 10) (hb : b < 1000000) : q_wfO [(a, b)] := fun o ho => by
  rw [List.mem_singleton] at ho
  subst ho
  exact ⟨ha, hb⟩
theorem q_dg_gd {d : Nat} (hd : d < 32) : ∀ (m p v p0 k : Nat), m + k = 6 → v < 10 ^ k → p = p0 + k → (0 < k ∨ q_dgt B n p = true) → p ≤ n → q_gd (n := n) p0 d (q_dg B n m p v)
  | 0, p, v, p0, k, hm, hv, hp, h0, hn => by
    rw [q_dg]
    split
    · exact ⟨by omega, hn⟩
    · have hk : k = 6 := by omega
      subst hk
      refine ⟨hn, by simp only [List.length_cons, List.length_nil]; omega, by simp, q_wfO_one (by decide) (by omega), ?_⟩
      simp [q_deps, q_dep, hd]
  | m + 1, p, v, p0, k, hm, hv, hp, h0, hn => by
    rw [q_dg]
    by_cases h : q_dgt B n p = true
    · obtain ⟨h1, h2, h3⟩ := q_dgt_lt h
      rw [if_pos h]
      refine q_dg_gd hd m (p + 1) _ p0 (k + 1) (by omega) ?_ (by omega) (Or.inl (by omega)) (by omega)
      rw [Nat.pow_succ]
      omega
    · rw [if_neg h]
      have hk : 0 < k := h0.resolve_right h
      have hk6 : 10 ^ k ≤ 10 ^ 6 := Nat.pow_le_pow_right (by decide) (by omega)
      refine ⟨hn, by simp only [List.length_cons, List.length_nil]; omega, by simp, q_wfO_one (by decide) (by omega), ?_⟩
      simp [q_deps, q_dep, hd]
end Pf
