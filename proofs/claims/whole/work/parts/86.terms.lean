/-! ===== pure part: terms, sums, comparisons: what is sure of them ===== -/
section Tg
variable {B : Nat → Nat} {n : Nat}
theorem q_dep2 {k d : Nat} (hk : 6 ≤ k) (hk2 : k ≤ 10) (hd : d + 2 ≤ 32) : q_deps [(k, 0)] (d + 2) = some (d + 1) := by
  have h : q_dep k (d + 2) = some (d + 1) := by
    unfold q_dep
    rw [if_neg (by omega), if_neg (by omega), if_pos hk2, if_pos ⟨by omega, hd⟩]
    rfl
  simp [q_deps, h]
theorem q_dep1 {k d : Nat} (hk : 4 ≤ k) (hk2 : k ≤ 5) (hd : d + 1 ≤ 32) : q_deps [(k, 0)] (d + 1) = some (d + 1) := by
  have h : q_dep k (d + 1) = some (d + 1) := by
    unfold q_dep
    rw [if_neg (by omega), if_pos hk2, if_pos ⟨by omega, hd⟩]
  simp [q_deps, h]
theorem q_jn_is (p : Nat) : q_jn B n p = 0 ∨ (6 ≤ q_jn B n p ∧ q_jn B n p ≤ 8 ∧ p < n) := by
  unfold q_jn
  by_cases h1 : q_chr B n p 43 = true
  · rw [if_pos h1]
    exact Or.inr ⟨by decide, by decide, (q_chr_lt h1).1⟩
  · rw [if_neg h1]
    by_cases h2 : q_chr B n p 45 = true
    · rw [if_pos h2]
      exact Or.inr ⟨by decide, by decide, (q_chr_lt h2).1⟩
    · rw [if_neg h2]
      by_cases h3 : q_chr B n p 42 = true
      · rw [if_pos h3]
        exact Or.inr ⟨by decide, by decide, (q_chr_lt h3).1⟩
      · rw [if_neg h3]
        exact Or.inl rfl
theorem q_app_gd {p d q : Nat} {l l' : List (Nat × Nat)} {k : Nat} (h1 : q_wfO l) (h2 : q_deps l d = some (d + 1)) (h3 : q_wfO l') (h4 : q_deps l' (d + 1) = some (d + 2)) (hk : 6 ≤ k) (hk2 : k ≤ 10) (hd : d + 2 ≤ 32) : q_wfO (l ++ l' ++ [(k, 0)]) ∧ q_deps (l ++ l' ++ [(k, 0)]) d = some (d + 1) := by
  refine ⟨q_wfO_app (q_wfO_app h1 h3) (q_wfO_one hk2 (by decide)), ?_⟩
  rw [q_deps_app, q_deps_app, h2]
  dsimp only
  rw [h4]
  exact q_dep2 hk hk2 hd
theorem q_sm_gd {T : Nat → qRes} {K : Nat} (hT : ∀ p d, p ≤ n → d + K < 32 → q_gd (n := n) p d (T p)) {p0 d : Nat} (hd : d + K + 1 < 32) : ∀ (m p : Nat) (acc : List (Nat × Nat)), p ≤ n → p0 + acc.length ≤ p → 0 < acc.length → q_wfO acc → q_deps acc d = some (d + 1) → q_gd (n := n) p0 d (q_sm B n T m p acc)
  | 0, p, acc, hp, h1, h2, h3, h4 => by
    rw [q_sm]
    exact ⟨q_skp_le hp, by have := q_skp_ge (B := B) (n := n) p; omega, h2, h3, h4⟩
  | m + 1, p, acc, hp, h1, h2, h3, h4 => by
    have hq := q_skp_ge (B := B) (n := n) p
    have hqn := q_skp_le (B := B) hp
    rw [q_sm]
    rcases q_jn_is (B := B) (n := n) (q_skp B n p) with hj | ⟨hj1, hj2, hj3⟩
    · rw [if_pos hj]
      exact ⟨hqn, by omega, h2, h3, h4⟩
    · rw [if_neg (by omega)]
      have hg := hT (q_skp B n p + 1) (d + 1) (by omega) (by omega)
      revert hg
      cases T (q_skp B n p + 1) with
      | inl r =>
        intro hg
        exact ⟨by have := hg.1; omega, hg.2⟩
      | inr x =>
        obtain ⟨r, l⟩ := x
        rintro ⟨g1, g2, g3, g4, g5⟩
        obtain ⟨w1, w2⟩ := q_app_gd (p := p0) (q := r) h3 h4 g4 g5 (by omega) (by omega) (show d + 2 ≤ 32 by omega)
        exact q_sm_gd hT hd m r _ g1 (by simp only [List.length_append, List.length_cons, List.length_nil]; omega) (by simp only [List.length_append, List.length_cons, List.length_nil]; omega) w1 w2
theorem q_sum_gd {T : Nat → qRes} {K : Nat} (hT : ∀ p d, p ≤ n → d + K < 32 → q_gd (n := n) p d (T p)) {p d : Nat} (hp : p ≤ n) (hd : d + K + 1 < 32) : q_gd (n := n) p d (q_sum B n T p) := by
  unfold q_sum
  have hg := hT p d hp (by omega)
  revert hg
  cases T p with
  | inl r => exact fun hg => hg
  | inr x =>
    obtain ⟨r, l⟩ := x
    rintro ⟨g1, g2, g3, g4, g5⟩
    exact q_sm_gd hT hd 400 r l g1 g2 g3 g4 g5
theorem q_cmp_gd {T : Nat → qRes} {K : Nat} (hT : ∀ p d, p ≤ n → d + K < 32 → q_gd (n := n) p d (T p)) {p d : Nat} (hp : p ≤ n) (hd : d + K + 2 < 32) : q_gd (n := n) p d (q_cmp B n T p) := by
  unfold q_cmp
  have hg := q_sum_gd (B := B) hT hp (show d + K + 1 < 32 by omega)
  revert hg
  cases q_sum B n T p with
  | inl r => exact fun hg => hg
  | inr x =>
    obtain ⟨q, l⟩ := x
    rintro ⟨g1, g2, g3, g4, g5⟩
    dsimp only
    by_cases h1 : q_chr B n q 60 = true
    · rw [if_pos h1]
      have hg2 := q_sum_gd (B := B) hT (p := q + 1) (d := d + 1) (by have := (q_chr_lt h1).1; omega) (by omega)
      revert hg2
      cases q_sum B n T (q + 1) with
      | inl r => exact fun hg => ⟨by have := hg.1; omega, hg.2⟩
      | inr x =>
        obtain ⟨r, l'⟩ := x
        rintro ⟨k1, k2, k3, k4, k5⟩
        obtain ⟨w1, w2⟩ := q_app_gd (p := p) (q := r) (k := 9) g4 g5 k4 k5 (by decide) (by decide) (show d + 2 ≤ 32 by omega)
        exact ⟨k1, by simp only [List.length_append, List.length_cons, List.length_nil]; omega, by simp only [List.length_append, List.length_cons, List.length_nil]; omega, w1, w2⟩
    · rw [if_neg h1]
      by_cases h2 : q_chr B n q 61 = true
      · rw [if_pos h2]
        have hg2 := q_sum_gd (B := B) hT (p := q + 1) (d := d + 1) (by have := (q_chr_lt h2).1; omega) (by omega)
        revert hg2
        cases q_sum B n T (q + 1) with
        | inl r => exact fun hg => ⟨by have := hg.1; omega, hg.2⟩
        | inr x =>
          obtain ⟨r, l'⟩ := x
          rintro ⟨k1, k2, k3, k4, k5⟩
          obtain ⟨w1, w2⟩ := q_app_gd (p := p) (q := r) (k := 10) g4 g5 k4 k5 (by decide) (by decide) (show d + 2 ≤ 32 by omega)
          exact ⟨k1, by simp only [List.length_append, List.length_cons, List.length_nil]; omega, by simp only [List.length_append, List.length_cons, List.length_nil]; omega, w1, w2⟩
      · rw [if_neg h2]
        exact ⟨g1, g2, g3, g4, g5⟩
theorem q_one_gd {p q d k : Nat} (hk : k ≤ 3) (hq : q ≤ n) (hpq : p + 1 ≤ q) (hd : d < 32) : q_gd (n := n) p d (.inr (q, [(k, 0)])) := by
  refine ⟨hq, hpq, by simp, q_wfO_one (by omega) (by decide), ?_⟩
  have h : q_dep k d = some (d + 1) := by
    unfold q_dep
    rw [if_pos hk, if_pos hd]
  simp [q_deps, h]
theorem q_app1_gd {p q p' d k : Nat} {l : List (Nat × Nat)} (h : q_gd (n := n) p' d (.inr (q, l))) (hp : p + 1 ≤ p') (hk : 4 ≤ k) (hk2 : k ≤ 5) (hd : d + 1 ≤ 32) : q_gd (n := n) p d (.inr (q, l ++ [(k, 0)])) := by
  obtain ⟨g1, g2, g3, g4, g5⟩ := h
  refine ⟨g1, by simp only [List.length_append, List.length_cons, List.length_nil]; omega, by simp only [List.length_append, List.length_cons, List.length_nil]; omega, q_wfO_app g4 (q_wfO_one (by omega) (by decide)), ?_⟩
  rw [q_deps_app, g5]
  exact q_dep1 hk hk2 hd
theorem q_tms_gd {p0 p d : Nat} {R : qRes} (h0 : p0 ≤ p) (hp : p ≤ n) (hd : d < 32) (hR : q_gd (n := n) p0 d R) : q_gd (n := n) p0 d (q_tms B n p R) := by
  unfold q_tms
  split
  · rename_i h
    have hg := q_dg_gd (B := B) (n := n) hd 6 p 0 p 0 rfl (by decide) rfl (Or.inr h) hp
    revert hg
    cases q_dg B n 6 p 0 with
    | inl r => exact fun hg => ⟨by have := hg.1; omega, hg.2⟩
    | inr x => exact fun hg => ⟨hg.1, by have := hg.2.1; omega, hg.2.2⟩
  · split
    · rename_i h
      exact q_one_gd (by decide) (by rcases q_wd_lt _ _ h with h | h <;> simp at h <;> omega) (by omega) hd
    · split
      · rename_i h
        exact q_one_gd (by decide) (by rcases q_wd_lt _ _ h with h | h <;> simp at h <;> omega) (by omega) hd
      · split
        · rename_i h
          exact q_one_gd (by decide) (by rcases q_wd_lt _ _ h with h | h <;> simp at h <;> omega) (by omega) hd
        · exact hR
theorem q_pT_gd : ∀ (o p d : Nat), p ≤ n → d + 2 * o < 32 → q_gd (n := n) p d (q_pT B n o p)
  | 0, p, d, hp, hd => by
    rw [q_pT]
    exact q_tms_gd (q_skp_ge p) (q_skp_le hp) (by omega) ⟨q_skp_ge p, q_skp_le hp⟩
  | o + 1, p, d, hp, hd => by
    have hT := q_pT_gd o
    have hq := q_skp_ge (B := B) (n := n) p
    have hqn := q_skp_le (B := B) hp
    rw [q_pT]
    refine q_tms_gd hq hqn (by omega) ?_
    unfold q_tmo
    split
    · rename_i h
      have h3 : q_skp B n p + 3 ≤ n := by rcases q_wd_lt _ _ h with h | h <;> simp at h <;> omega
      have hg := hT (q_skp B n p + 3) d h3 (by omega)
      revert hg
      cases q_pT B n o (q_skp B n p + 3) with
      | inl r => exact fun hg => ⟨by have := hg.1; omega, hg.2⟩
      | inr x => exact fun hg => q_app1_gd hg (by omega) (by decide) (by decide) (by omega)
    · split
      · rename_i h
        have h3 : q_skp B n p + 7 ≤ n := by rcases q_wd_lt _ _ h with h | h <;> simp at h <;> omega
        have hg := hT (q_skp B n p + 7) d h3 (by omega)
        revert hg
        cases q_pT B n o (q_skp B n p + 7) with
        | inl r => exact fun hg => ⟨by have := hg.1; omega, hg.2⟩
        | inr x => exact fun hg => q_app1_gd hg (by omega) (by decide) (by decide) (by omega)
      · split
        · rename_i h
          have h3 := (q_chr_lt h).1
          have hg := q_cmp_gd (B := B) (K := 2 * o) hT (p := q_skp B n p + 1) (d := d) (by omega) (by omega)
          revert hg
          cases q_cmp B n (q_pT B n o) (q_skp B n p + 1) with
          | inl r => exact fun hg => ⟨by have := hg.1; omega, hg.2⟩
          | inr x =>
            obtain ⟨r, l⟩ := x
            rintro ⟨g1, g2, g3, g4, g5⟩
            have hr := q_skp_ge (B := B) (n := n) r
            have hrn := q_skp_le (B := B) g1
            dsimp only
            split
            · rename_i h5
              have := (q_chr_lt h5).1
              exact ⟨by omega, by omega, g3, g4, g5⟩
            · exact ⟨by omega, hrn⟩
        · exact ⟨hq, hqn⟩
end Tg
