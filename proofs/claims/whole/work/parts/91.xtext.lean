/-! ===== pure part: the program reads a text ===== -/
def q_r0 (r : zLS) (n : Nat) : zLS := (upd (upd r.1 1 1) 2 (nI n), r.2)
theorem q_r0_x (r : zLS) (n : Nat) (g : zSG) (hr : g 1 0 = r) : z_gI (z_gI (z_gI (z_gI (z_gI g 1 0 1 (1 : Int32)) 1 0 2 (nI n)) 1 0 3 (0 : Int32)) 1 0 4 (0 : Int32)) 1 0 5 (0 : Int32) = q_O g 1 0 (q_x (q_r0 r n) 0 0 0 (r.2 0)) := by
  simp only [q_gI, q_O_get, q_O_O, hr]
  refine congrArg (q_O g 1 0) ?_
  refine Prod.ext rfl ?_
  show r.2 = va_up r.2 0 (r.2 0)
  funext k
  by_cases hk : k = 0
  · subst hk
    exact (va_up_self _ _ _).symm
  · exact (va_up_ne _ _ hk).symm
def q_okT (g : zSG) (n : Nat) (out : Option zRR) : Nat ⊕ List qIt → Prop
  | .inl q => ∃ u' s' f', out = some (.inl (some (.inl 0)), q_O g 1 0 (q_x (q_r0 (g 1 0) n) q u' s' f'))
  | .inr its => ∃ q f', out = some (.inl (some (.inl 1)), q_O g 1 0 (q_x (q_r0 (g 1 0) n) q (q_lx its) its.length f')) ∧ q_spX f' 0 0 its
theorem q_txt_gI {B : Nat → Nat} {n : Nat} : match q_txt B n with
  | .inl q => q ≤ n
  | .inr its => q_lx its ≤ n ∧ q_lm its ≤ n ∧ its.length ≤ 30 ∧ q_wfI its := by
  have hg := q_lv_gI (B := B) (n := n) 6 0 0 (by omega) (by decide)
  unfold q_txt
  revert hg
  cases q_lv B n 6 0 0 with
  | inl q => exact fun hg => hg.2
  | inr y =>
    obtain ⟨q, its⟩ := y
    rintro ⟨g1, g2, g3, g4, g5⟩
    dsimp only
    by_cases c : n ≤ q
    · rw [if_pos c]
      exact ⟨by omega, by omega, by omega, g5⟩
    · rw [if_neg c]
      exact g1
theorem q_Xund {B : Nat → Nat} {n : Nat} {g : zSG} (hn : n ≤ 400) (hB : ∀ i, i < n → B i < 256 ∧ (g 0 0).2 0 i = nI (B i)) : q_okT g n (zF_X1_understands [.inr (.inl (1, 0, 0)), .inr (.inl (0, 0, 1)), .inl (nI n)] g) (q_txt B n) := by
  have hrd : q_rd B n g (q_r0 (g 1 0) n) := ⟨hn, hB, rfl, rfl⟩
  rw [(ze_X1_understands _ g).trans (zu_X1_understands_0 99999 _ g), q_min, if_neg (show ¬ (400 : Int32) < nI n from nI_nlt (a := 400) hn (by decide)), q_bI, q_r0_x (g 1 0) n g rfl]
  have hf := q_XL hrd 6 (by decide) 24 (by decide) 0 0 0 ((g 1 0).2 0) (by omega) (by decide) (by decide)
  rw [show nI (6 - 6) = (0 : Int32) from rfl] at hf
  have hg := q_lv_gI (B := B) (n := n) 6 0 0 (by omega) (by decide)
  unfold q_txt
  revert hf hg
  cases q_lv B n 6 0 0 with
  | inl q =>
    rintro ⟨u', s', f', e⟩ -
    rw [e, q_bI, if_pos rfl, q_00]
    exact ⟨_, _, _, rfl⟩
  | inr y =>
    obtain ⟨q, its⟩ := y
    rintro ⟨f', e, h1, h2⟩ ⟨g1, g2, g3, g4, g5⟩
    rw [e, q_bI, if_neg (by decide), q_O_get, q_x3, q_x2, show (q_r0 (g 1 0) n).1 2 = nI n from rfl]
    dsimp only
    by_cases c : n ≤ q
    · rw [if_neg (nI_nlt c (by omega)), if_pos c, q_11]
      refine ⟨q, f', ?_, h1⟩
      rw [Nat.zero_add, Nat.zero_add]
    · rw [if_pos (nI_lt (by omega) (by omega)), if_neg c, q_00]
      exact ⟨_, _, _, rfl⟩
