/-! ===== pure part: items: what is sure of them ===== -/
theorem q_lx_app : ∀ (l l' : List qIt), q_lx (l ++ l') = q_lx l + q_lx l'
  | [], l' => by simp [q_lx]
  | it :: r, l' => by
    rw [List.cons_append, q_lx, q_lx, q_lx_app r l']
    omega
theorem q_lm_app : ∀ (l l' : List qIt), q_lm (l ++ l') = q_lm l + q_lm l'
  | [], l' => by simp [q_lm]
  | it :: r, l' => by
    rw [List.cons_append, q_lm, q_lm, q_lm_app r l']
    omega
theorem q_wfI_app : ∀ (l l' : List qIt), q_wfI l → q_wfI l' → q_wfI (l ++ l')
  | [], l', _, h => h
  | it :: r, l', h, h' => ⟨h.1, h.2.1, h.2.2.1, fun e => by have := h.2.2.2.1 e; show it.2.2 ≤ (r ++ l').length; rw [List.length_append]; omega, q_wfI_app r l' h.2.2.2.2 h'⟩
theorem q_spX_app {f : Nat → Int32} : ∀ (l l' : List qIt) (i p : Nat), q_wfI l → q_spX f i p l → q_spX f (i + l.length) (p + q_lx l) l' → q_spX f i p (l ++ l')
  | [], l', i, p, _, _, h => by simpa [q_lx] using h
  | it :: r, l', i, p, hw, h, h' => by
    refine ⟨h.1, ?_, q_spX_app r l' (i + 1) _ hw.2.2.2.2 h.2.2 ?_⟩
    · have h2 := h.2.1
      by_cases e : it.1 = 13
      · rw [if_pos e] at h2 ⊢
        have e3 : List.take it.2.2 (r ++ l') = List.take it.2.2 r := List.take_append_of_le_length (hw.2.2.2.1 e)
        show _ = _
        first
          | (rw [show (List.append r l') = r ++ l' from rfl, e3]; exact h2)
          | (rw [e3]; exact h2)
      · rw [if_neg e] at h2 ⊢
        exact h2
    · rw [List.length_cons, q_lx] at h'
      rw [show i + 1 + r.length = i + (r.length + 1) by omega, show p + it.2.1.length + 1 + q_lx r = p + (it.2.1.length + 1 + q_lx r) by omega]
      exact h'
theorem q_spX_cong {f f' : Nat → Int32} : ∀ (l : List qIt) (i p : Nat), (∀ j, p ≤ j → j < p + q_lx l → f' j = f j) → q_spX f i p l → q_spX f' i p l
  | [], _, _, _, _ => trivial
  | it :: r, i, p, h, h' => by
    rw [q_lx] at h
    exact ⟨q_spO_cong it.2.1 p (fun j h1 h2 => h j h1 (by omega)) h'.1, (h _ (by omega) (by omega)).trans h'.2.1, q_spX_cong r (i + 1) _ (fun j h1 h2 => h j (by omega) (by omega)) h'.2.2⟩
section It
variable {B : Nat → Nat} {n : Nat}
def q_gJ (n p s : Nat) : qRI → Prop
  | .inl q => p ≤ q ∧ q ≤ n
  | .inr (q, its) => q ≤ n ∧ p + q_lx its ≤ q ∧ p + q_lm its ≤ q ∧ s + its.length ≤ 30 ∧ q_wfI its
theorem q_end_is {c p : Nat} (hp : p ≤ n) : (∃ q, q_end B n c p = .inl q ∧ p ≤ q ∧ q ≤ n) ∨ (∃ q, q_end B n c p = .inr q ∧ p + 1 ≤ q ∧ q ≤ n) := by
  have hq := q_skp_ge (B := B) (n := n) p
  have hqn := q_skp_le (B := B) hp
  unfold q_end
  by_cases h : q_chr B n (q_skp B n p) c = true
  · rw [if_pos h]
    exact Or.inr ⟨_, rfl, by omega, (q_chr_lt h).1⟩
  · rw [if_neg h]
    exact Or.inl ⟨_, rfl, hq, hqn⟩
theorem q_sumT {p d : Nat} (hp : p ≤ n) (hd : d ≤ 2) : q_gd (n := n) p d (q_sum B n (q_pT B n 12) p) := q_sum_gd (K := 24) (fun p d hp hd => q_pT_gd 12 p d hp hd) hp (by omega)
theorem q_cmpT {p : Nat} (hp : p ≤ n) : q_gd (n := n) p 0 (q_cmp B n (q_pT B n 12) p) := q_cmp_gd (K := 24) (fun p d hp hd => q_pT_gd 12 p d hp hd) hp (by decide)
theorem q_stO_gI {S : Nat → Nat → qRI} (hS : ∀ p s, p ≤ n → s ≤ 30 → q_gJ n p s (S p s)) {p s : Nat} (hp : p ≤ n) (hs : s < 30) : q_gJ n p s (q_stO B n S p s) := by
  unfold q_stO
  by_cases hw : q_wd B n [119, 104, 101, 110] p = true
  · have h4 : p + 4 ≤ n := by rcases q_wd_lt _ _ hw with h | h <;> simp at h <;> omega
    rw [if_pos hw]
    have hg := q_cmpT (B := B) h4
    revert hg
    cases q_cmp B n (q_pT B n 12) (p + 4) with
    | inl r => exact fun hg => ⟨by have := hg.1; omega, hg.2⟩
    | inr x =>
      obtain ⟨r, l⟩ := x
      rintro ⟨g1, g2, g3, g4, g5⟩
      dsimp only
      rcases q_end_is (B := B) (c := 40) g1 with ⟨q, e, h1, h2⟩ | ⟨q, e, h1, h2⟩
      · rw [e]
        exact ⟨by omega, h2⟩
      · rw [e]
        dsimp only
        have hg := hS q (s + 1) h2 (by omega)
        revert hg
        cases S q (s + 1) with
        | inl r => exact fun hg => ⟨by have := hg.1; omega, hg.2⟩
        | inr x =>
          obtain ⟨r', body⟩ := x
          rintro ⟨k1, k2, k3, k4, k5⟩
          dsimp only
          rcases q_end_is (B := B) (c := 41) k1 with ⟨q', e', h1', h2'⟩ | ⟨q', e', h1', h2'⟩
          · rw [e']
            exact ⟨by omega, h2'⟩
          · rw [e']
            refine ⟨h2', by rw [q_lx]; dsimp only; omega, by rw [q_lm]; dsimp only; omega, by rw [List.length_cons]; omega, Or.inr (Or.inr rfl), g4, g5, fun _ => Nat.le_refl _, k5⟩
  · rw [if_neg hw]
    exact ⟨Nat.le_refl _, hp⟩
theorem q_stS_gI {R : qRI} {p s : Nat} (hp : p ≤ n) (hR : s < 30 → q_gJ n p s R) : q_gJ n p s (q_stS B n p s R) := by
  unfold q_stS
  by_cases h30 : 30 ≤ s
  · rw [if_pos h30]
    exact ⟨Nat.le_refl _, hp⟩
  · rw [if_neg h30]
    by_cases hw : q_wd B n [112, 117, 116] p = true
    · have h4 : p + 3 ≤ n := by rcases q_wd_lt _ _ hw with h | h <;> simp at h <;> omega
      rw [if_pos hw]
      have hg := q_sumT (B := B) (d := 0) h4 (by decide)
      revert hg
      cases q_sum B n (q_pT B n 12) (p + 3) with
      | inl r => exact fun hg => ⟨by have := hg.1; omega, hg.2⟩
      | inr x =>
        obtain ⟨r, l⟩ := x
        rintro ⟨g1, g2, g3, g4, g5⟩
        dsimp only
        have hg := q_sumT (B := B) (d := 1) g1 (by decide)
        revert hg
        cases q_sum B n (q_pT B n 12) r with
        | inl r => exact fun hg => ⟨by have := hg.1; omega, hg.2⟩
        | inr x =>
          obtain ⟨r', l'⟩ := x
          rintro ⟨k1, k2, k3, k4, k5⟩
          dsimp only
          rcases q_end_is (B := B) (c := 59) k1 with ⟨q, e, h1, h2⟩ | ⟨q, e, h1, h2⟩
          · rw [e]
            exact ⟨by omega, h2⟩
          · rw [e]
            refine ⟨h2, by simp only [q_lx, List.length_append]; omega, by simp only [q_lm, List.length_append]; omega, by simp only [List.length_cons, List.length_nil]; omega, Or.inl rfl, q_wfO_app g4 k4, ?_, (fun e => absurd (show (11 : Nat) = 13 from e) (by decide)), trivial⟩
            rw [q_deps_app, g5]
            exact k5
    · rw [if_neg hw]
      by_cases hw2 : q_wd B n [115, 97, 121] p = true
      · have h4 : p + 3 ≤ n := by rcases q_wd_lt _ _ hw2 with h | h <;> simp at h <;> omega
        rw [if_pos hw2]
        have hg := q_cmpT (B := B) h4
        revert hg
        cases q_cmp B n (q_pT B n 12) (p + 3) with
        | inl r => exact fun hg => ⟨by have := hg.1; omega, hg.2⟩
        | inr x =>
          obtain ⟨r, l⟩ := x
          rintro ⟨g1, g2, g3, g4, g5⟩
          dsimp only
          rcases q_end_is (B := B) (c := 59) g1 with ⟨q, e, h1, h2⟩ | ⟨q, e, h1, h2⟩
          · rw [e]
            exact ⟨by omega, h2⟩
          · rw [e]
            exact ⟨h2, by simp only [q_lx]; omega, by simp only [q_lm]; omega, by simp only [List.length_cons, List.length_nil]; omega, Or.inr (Or.inl rfl), g4, g5, (fun e => absurd (show (12 : Nat) = 13 from e) (by decide)), trivial⟩
      · rw [if_neg hw2]
        exact hR (by omega)
theorem q_lp_gI {St : Nat → Nat → qRI} (hS : ∀ p s, p ≤ n → s ≤ 30 → q_gJ n p s (St p s)) {p0 s0 : Nat} : ∀ (m p s : Nat) (acc : List qIt), p ≤ n → p0 + q_lx acc ≤ p → p0 + q_lm acc ≤ p → s = s0 + acc.length → s ≤ 30 → q_wfI acc → q_gJ n p0 s0 (q_lp B n St m p s acc)
  | 0, p, s, acc, hp, h1, h2, h3, h4, h5 => by
    rw [q_lp]
    exact ⟨by have := q_skp_ge (B := B) (n := n) p; omega, q_skp_le hp⟩
  | m + 1, p, s, acc, hp, h1, h2, h3, h4, h5 => by
    have hq := q_skp_ge (B := B) (n := n) p
    have hqn := q_skp_le (B := B) hp
    rw [q_lp]
    by_cases c : n ≤ q_skp B n p ∨ B (q_skp B n p) = 41
    · rw [if_pos c]
      exact ⟨hqn, by omega, by omega, by omega, h5⟩
    · rw [if_neg c]
      have hg := hS (q_skp B n p) s hqn h4
      revert hg
      cases St (q_skp B n p) s with
      | inl r => exact fun hg => ⟨by have := hg.1; omega, hg.2⟩
      | inr x =>
        obtain ⟨r, its⟩ := x
        rintro ⟨k1, k2, k3, k4, k5⟩
        exact q_lp_gI hS m r _ _ k1 (by rw [q_lx_app]; omega) (by rw [q_lm_app]; omega) (by rw [List.length_append]; omega) k4 (q_wfI_app _ _ h5 k5)
theorem q_lv_gI : ∀ (h p s : Nat), p ≤ n → s ≤ 30 → q_gJ n p s (q_lv B n h p s)
  | 0, p, s, hp, hs => by
    rw [q_lv]
    exact q_lp_gI (St := fun p s => q_stS B n p s (.inl p)) (fun p s hp hs => q_stS_gI (R := .inl p) hp (fun _ => ⟨Nat.le_refl _, hp⟩)) 31 p s [] hp (Nat.le_refl _) (Nat.le_refl _) rfl hs trivial
  | h + 1, p, s, hp, hs => by
    have ih := q_lv_gI h
    rw [q_lv]
    exact q_lp_gI (fun p s hp hs => q_stS_gI hp (fun h30 => q_stO_gI ih hp h30)) 31 p s [] hp (Nat.le_refl _) (Nat.le_refl _) rfl hs trivial
/-- a step that is read is more than nothing -/
theorem q_stS_pos {R : qRI} {p s q : Nat} {its : List qIt} (hR : ∀ q its, R = .inr (q, its) → 0 < its.length) (h : q_stS B n p s R = .inr (q, its)) : 0 < its.length := by
  unfold q_stS at h
  split at h
  · cases h
  · split at h
    · revert h
      cases q_sum B n (q_pT B n 12) (p + 3) with
      | inl r => exact fun h => nomatch h
      | inr x =>
        dsimp only
        cases q_sum B n (q_pT B n 12) x.1 with
        | inl r => exact fun h => nomatch h
        | inr y =>
          dsimp only
          cases q_end B n 59 y.1 with
          | inl r => exact fun h => nomatch h
          | inr r =>
            intro h
            cases h
            exact Nat.succ_pos _
    · split at h
      · revert h
        cases q_cmp B n (q_pT B n 12) (p + 3) with
        | inl r => exact fun h => nomatch h
        | inr x =>
          dsimp only
          cases q_end B n 59 x.1 with
          | inl r => exact fun h => nomatch h
          | inr r =>
            intro h
            cases h
            exact Nat.succ_pos _
      · exact hR q its h
theorem q_stO_pos {S : Nat → Nat → qRI} {p s q : Nat} {its : List qIt} (h : q_stO B n S p s = .inr (q, its)) : 0 < its.length := by
  unfold q_stO at h
  split at h
  · revert h
    cases q_cmp B n (q_pT B n 12) (p + 4) with
    | inl r => exact fun h => nomatch h
    | inr x =>
      dsimp only
      cases q_end B n 40 x.1 with
      | inl r => exact fun h => nomatch h
      | inr r =>
        dsimp only
        cases S r (s + 1) with
        | inl r => exact fun h => nomatch h
        | inr y =>
          dsimp only
          cases q_end B n 41 y.1 with
          | inl r => exact fun h => nomatch h
          | inr r =>
            intro h
            cases h
            exact Nat.succ_pos _
  · cases h
end It
