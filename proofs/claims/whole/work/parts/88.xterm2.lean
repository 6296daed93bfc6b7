/-! ===== pure part: the program reads a term ===== -/
def q_rest (P : Nat → List zVV → zSG → Option zRR) (x1 : Int32) (g10 : zSG) : Option zRR := (if x1 < (12 : Int32) then (z_bI (zF_X1_takeWord [.inr (.inl (1, 0, 0)), .inr (.inl (6, 6, 0))] g10) (fun r13 g12 => (if r13 = 0 then (z_bI (zF_X1_takeWord [.inr (.inl (1, 0, 0)), .inr (.inl (6, 7, 0))] g12) (fun r15 g14 => (if r15 = 0 then (z_bI (zF_X1_takeSign [.inr (.inl (1, 0, 0)), .inl (40 : Int32)] g14) (fun r17 g16 => (if r17 = 0 then (if (0 : Int32) = 0 ∨ (0 : Int32) = 1 then some (.inl (some (.inl (0 : Int32))), g16) else none) else (z_bI ((P 2) [.inr (.inl (1, 0, 0)), .inl (x1 + (1 : Int32))] g16) (fun r19 g18 => (if r19 = 0 then (if (0 : Int32) = 0 ∨ (0 : Int32) = 1 then some (.inl (some (.inl (0 : Int32))), g18) else none) else (z_bI (zF_X1_takeSign [.inr (.inl (1, 0, 0)), .inl (41 : Int32)] g18) (fun r21 g20 => (if r21 = 0 then (if (0 : Int32) = 0 ∨ (0 : Int32) = 1 then some (.inl (some (.inl (0 : Int32))), g20) else none) else (if (1 : Int32) = 0 ∨ (1 : Int32) = 1 then some (.inl (some (.inl (1 : Int32))), g20) else none)))))))))) else (z_bI ((P 0) [.inr (.inl (1, 0, 0)), .inl (x1 + (1 : Int32))] g14) (fun r23 g22 => (if r23 = 0 then (if (0 : Int32) = 0 ∨ (0 : Int32) = 1 then some (.inl (some (.inl (0 : Int32))), g22) else none) else (z_bI (zF_X1_lay [.inr (.inl (1, 0, 0)), .inl (5 : Int32), .inl (0 : Int32)] g22) (fun r25 g24 => (if r25 = 0 then (if (0 : Int32) = 0 ∨ (0 : Int32) = 1 then some (.inl (some (.inl (0 : Int32))), g24) else none) else (if (1 : Int32) = 0 ∨ (1 : Int32) = 1 then some (.inl (some (.inl (1 : Int32))), g24) else none)))))))))) else (z_bI ((P 0) [.inr (.inl (1, 0, 0)), .inl (x1 + (1 : Int32))] g12) (fun r27 g26 => (if r27 = 0 then (if (0 : Int32) = 0 ∨ (0 : Int32) = 1 then some (.inl (some (.inl (0 : Int32))), g26) else none) else (z_bI (zF_X1_lay [.inr (.inl (1, 0, 0)), .inl (4 : Int32), .inl (0 : Int32)] g26) (fun r29 g28 => (if r29 = 0 then (if (0 : Int32) = 0 ∨ (0 : Int32) = 1 then some (.inl (some (.inl (0 : Int32))), g28) else none) else (if (1 : Int32) = 0 ∨ (1 : Int32) = 1 then some (.inl (some (.inl (1 : Int32))), g28) else none)))))))))) else (if (0 : Int32) = 0 ∨ (0 : Int32) = 1 then some (.inl (some (.inl (0 : Int32))), g10) else none))
section Xm
variable {B : Nat → Nat} {n : Nat} {g : zSG} {r : zLS}
theorem q_okX_b {u s : Nat} {f : Nat → Int32} {out : Option zRR} {R : qRes} (h : q_okX g r u s f out R) : q_okX g r u s f (z_bI out (fun r37 g36 => (if r37 = 0 ∨ r37 = 1 then some (.inl (some (.inl r37)), g36) else none))) R := by
  cases R with
  | inl q =>
    obtain ⟨u', f', e⟩ := h
    rw [e, q_bI, q_00]
    exact ⟨u', f', rfl⟩
  | inr x =>
    obtain ⟨q, l⟩ := x
    obtain ⟨f', e, h1, h2⟩ := h
    rw [e, q_bI, q_11]
    exact ⟨f', rfl, h1, h2⟩
theorem q_Xlay {p u s k : Nat} {f : Nat → Int32} (hk : k < 16) (hu : u < 400) : q_okX g r u s f (z_bI (zF_X1_lay [.inr (.inl (1, 0, 0)), .inl (nI k), .inl (0 : Int32)] (q_O g 1 0 (q_x r p u s f))) (fun r37 g36 => (if r37 = 0 ∨ r37 = 1 then some (.inl (some (.inl r37)), g36) else none))) (.inr (p, [(k, 0)])) := by
  refine q_okX_b ?_
  rw [show zF_X1_lay [.inr (.inl (1, 0, 0)), .inl (nI k), .inl (0 : Int32)] (q_O g 1 0 (q_x r p u s f)) = _ from q_xlay1 (v := 0) hk (by decide) hu]
  exact ⟨_, rfl, ⟨pk_us, trivial⟩, fun i hi => pk_un (by omega)⟩
theorem q_Xtms (h : q_rd B n g r) {P : Nat → List zVV → zSG → Option zRR} {x1 : Int32} {p u s : Nat} {f : Nat → Int32} {R : qRes} (hp : p ≤ n) (hu : u ≤ p) (hR : q_okX g r u s f (q_rest P x1 (q_O g 1 0 (q_x r (q_skp B n p) u s f))) R) : q_okX g r u s f (z_run (zM_X1_readTerm P) zc_X1_readTerm zk_X1_readTerm 100000 0 [(0, .inr (.inl (1, 0, 0))), (1, .inl x1)] (q_O g 1 0 (q_x r p u s f)) (0, 0)) (q_tms B n (q_skp B n p) R) := by
  have hn := h.1
  have hB := fun i hi => (h.2.1 i hi).1
  have hq := q_skp_ge (B := B) (n := n) p
  have hqn := q_skp_le (B := B) hp
  show q_okX g r u s f (z_run (zM_X1_readTerm P) zc_X1_readTerm zk_X1_readTerm (99999 + 1) 0 [(0, .inr (.inl (1, 0, 0))), (1, .inl x1)] (q_O g 1 0 (q_x r p u s f)) (0, 0)) _
  rw [zu_X1_readTerm_0, q_xskip h hp, q_bV, q_O_get, q_x3, q_xbyte h (by omega), q_bI, q_xdig hB, q_bI]
  unfold q_tms
  cases ht : q_dgt B n (q_skp B n p) with
  | true =>
    rw [if_neg (show ¬ (if true = true then (1 : Int32) else 0) = 0 by decide), if_pos rfl]
    exact q_okX_b (q_xnum h (by have := (q_dgt_lt ht).1; omega) hqn)
  | false =>
    rw [if_pos (show (if false = true then (1 : Int32) else 0) = 0 by decide), if_neg (show ¬ false = true by decide)]
    have w3 := q_xword (u := u) (s := s) (f := f) h hqn (w := 3) (by decide)
    have w4 := q_xword (u := u) (s := s) (f := f) h hqn (w := 4) (by decide)
    have w5 := q_xword (u := u) (s := s) (f := f) h hqn (w := 5) (by decide)
    rw [show q_ws 3 = [97] from rfl] at w3
    rw [show q_ws 4 = [98] from rfl] at w4
    rw [show q_ws 5 = [105, 100] from rfl] at w5
    rw [w3]
    by_cases c3 : q_wd B n [97] (q_skp B n p) = true
    · have hl : q_skp B n p + 1 ≤ n := by rcases q_wd_lt _ _ c3 with h | h <;> simp at h <;> omega
      rw [if_pos c3, if_pos c3, q_bI, if_neg (by decide)]
      exact q_Xlay (k := 1) (by decide) (by omega)
    · rw [if_neg c3, if_neg c3, q_bI, if_pos rfl, w4]
      by_cases c4 : q_wd B n [98] (q_skp B n p) = true
      · have hl : q_skp B n p + 1 ≤ n := by rcases q_wd_lt _ _ c4 with h | h <;> simp at h <;> omega
        rw [if_pos c4, if_pos c4, q_bI, if_neg (by decide)]
        exact q_Xlay (k := 2) (by decide) (by omega)
      · rw [if_neg c4, if_neg c4, q_bI, if_pos rfl, w5]
        by_cases c5 : q_wd B n [105, 100] (q_skp B n p) = true
        · have hl : q_skp B n p + 2 ≤ n := by rcases q_wd_lt _ _ c5 with h | h <;> simp at h <;> omega
          rw [if_pos c5, if_pos c5, q_bI, if_neg (by decide)]
          exact q_Xlay (k := 3) (by decide) (by omega)
        · rw [if_neg c5, if_neg c5, q_bI, if_pos rfl]
          exact hR
/-- a term behind get or outside -/
theorem q_Xget (h : q_rd B n g r) {F : List zVV → zSG → Option zRR} {x : Int32} {T : Nat → qRes} (hF : q_XF B n g r F x T) (hT : q_TG n T) {p u s k : Nat} {f : Nat → Int32} (hp : p ≤ n) (hu : u + 1 ≤ p) (hk : k < 16) : q_okX g r u s f (z_bI (F [.inr (.inl (1, 0, 0)), .inl x] (q_O g 1 0 (q_x r p u s f))) (fun r23 g22 => (if r23 = 0 then (if (0 : Int32) = 0 ∨ (0 : Int32) = 1 then some (.inl (some (.inl (0 : Int32))), g22) else none) else (z_bI (zF_X1_lay [.inr (.inl (1, 0, 0)), .inl (nI k), .inl (0 : Int32)] g22) (fun r25 g24 => (if r25 = 0 then (if (0 : Int32) = 0 ∨ (0 : Int32) = 1 then some (.inl (some (.inl (0 : Int32))), g24) else none) else (if (1 : Int32) = 0 ∨ (1 : Int32) = 1 then some (.inl (some (.inl (1 : Int32))), g24) else none))))))) (match T p with | .inl r => .inl r | .inr (r, l) => .inr (r, l ++ [(k, 0)])) := by
  have hn := h.1
  have hf := hF p u s f hp (by omega)
  have hg := hT p hp
  revert hf hg
  cases T p with
  | inl q =>
    rintro ⟨u', f', e⟩ -
    rw [e, q_bI, if_pos rfl, q_00]
    exact ⟨u', f', rfl⟩
  | inr y =>
    obtain ⟨q, l⟩ := y
    rintro ⟨f2, e, s2, b2⟩ ⟨g1, g2, g3⟩
    rw [e, q_bI, if_neg (by decide), show zF_X1_lay [.inr (.inl (1, 0, 0)), .inl (nI k), .inl (0 : Int32)] (q_O g 1 0 (q_x r q (u + l.length) s f2)) = _ from q_xlay1 (v := 0) hk (by decide) (by omega), q_bI, if_neg (by decide), q_11]
    have hlen : u + l.length + 1 = u + (l ++ [(k, 0)]).length := by simp only [List.length_append, List.length_cons, List.length_nil]; omega
    rw [hlen]
    refine ⟨_, rfl, q_spO_app _ _ u (q_spO_cong l u (fun i h5 h6 => pk_un (by omega)) s2) ⟨pk_us, trivial⟩, fun i hi => ?_⟩
    rw [pk_un (by omega)]
    exact b2 i hi
theorem q_sm_end {T : Nat → qRes} : ∀ (m p : Nat) (acc : List (Nat × Nat)) (q : Nat) (l : List (Nat × Nat)), q_sm B n T m p acc = .inr (q, l) → ¬ (q < n ∧ B q = 32)
  | 0, p, acc, q, l, h => by
    rw [q_sm] at h
    cases h
    exact q_skp_stop p
  | m + 1, p, acc, q, l, h => by
    rw [q_sm] at h
    split at h
    · cases h
      exact q_skp_stop p
    · revert h
      cases T (q_skp B n p + 1) with
      | inl r => exact fun h => nomatch h
      | inr x =>
        obtain ⟨r', l'⟩ := x
        exact fun h => q_sm_end m r' _ q l h
theorem q_sum_end {T : Nat → qRes} {p q : Nat} {l : List (Nat × Nat)} (h : q_sum B n T p = .inr (q, l)) : ¬ (q < n ∧ B q = 32) := by
  unfold q_sum at h
  revert h
  cases T p with
  | inl r => exact fun h => nomatch h
  | inr x =>
    obtain ⟨r', l'⟩ := x
    exact fun h => q_sm_end 400 r' l' q l h
theorem q_XT (h : q_rd B n g r) : ∀ (o : Nat), o ≤ 12 → ∀ d, 3 * o + 1 ≤ d → q_XF B n g r (zP1 d 0) (nI (12 - o)) (q_pT B n o)
  | 0, ho, d, hd => by
    obtain ⟨d, rfl⟩ : ∃ d', d = d' + 1 := ⟨d - 1, by omega⟩
    intro p u s f hp hu
    rw [q_zP1_0, q_pT]
    refine q_Xtms h hp hu ?_
    unfold q_rest
    rw [if_neg (show ¬ nI (12 - 0) < (12 : Int32) by decide), q_00]
    exact ⟨u, f, rfl⟩
  | o + 1, ho, d, hd => by
    obtain ⟨d, rfl⟩ : ∃ d', d = d' + 1 + 1 + 1 := ⟨d - 3, by omega⟩
    have hn := h.1
    have hT0 := q_XT h o (by omega) d (by omega)
    have hT2 := q_XT h o (by omega) (d + 1 + 1) (by omega)
    have hgd : ∀ p, p ≤ n → q_gd (n := n) p 0 (q_pT B n o p) := fun p hp => q_pT_gd o p 0 hp (by omega)
    have hTG := q_TG_of hgd
    have hsum : q_XF B n g r (zP1 (d + 1) 1) (nI (12 - o)) (q_sum B n (q_pT B n o)) := fun p u s f hp hu => by
      rw [q_zP1_1]
      exact q_Xsum h hT0 hTG p u s f hp hu
    have hsG : q_TG n (q_sum B n (q_pT B n o)) := q_TG_of (d := 0) (fun p hp => q_sum_gd (K := 2 * o) (fun p d hp hd => q_pT_gd o p d hp hd) hp (by omega))
    have hcmp : q_XF B n g r (zP1 (d + 1 + 1) 2) (nI (12 - o)) (q_cmp B n (q_pT B n o)) := fun p u s f hp hu => by
      rw [q_zP1_2]
      exact q_Xcmp h hsum hsG (fun p q l _ he => q_sum_end he) p u s f hp hu
    have hcG : q_TG n (q_cmp B n (q_pT B n o)) := q_TG_of (d := 0) (fun p hp => q_cmp_gd (K := 2 * o) (fun p d hp hd => q_pT_gd o p d hp hd) hp (by omega))
    intro p u s f hp hu
    have hq := q_skp_ge (B := B) (n := n) p
    have hqn := q_skp_le (B := B) hp
    rw [q_zP1_0, q_pT]
    refine q_Xtms h hp hu ?_
    have ex : nI (12 - (o + 1)) + (1 : Int32) = nI (12 - o) := by rw [nI_1, show 12 - (o + 1) + 1 = 12 - o by omega]
    have w6 := q_xword (u := u) (s := s) (f := f) h hqn (w := 6) (by decide)
    have w7 := q_xword (u := u) (s := s) (f := f) h hqn (w := 7) (by decide)
    rw [show q_ws 6 = [103, 101, 116] from rfl] at w6
    rw [show q_ws 7 = [111, 117, 116, 115, 105, 100, 101] from rfl] at w7
    unfold q_rest q_tmo
    rw [if_pos (show nI (12 - (o + 1)) < (12 : Int32) from nI_lt (b := 12) (by omega) (by decide)), w6]
    by_cases c6 : q_wd B n [103, 101, 116] (q_skp B n p) = true
    · have hl : q_skp B n p + 3 ≤ n := by rcases q_wd_lt _ _ c6 with h | h <;> simp at h <;> omega
      rw [if_pos c6, if_pos c6, q_bI, if_neg (by decide), ex]
      exact q_Xget h hT2 hTG (k := 4) hl (by show u + 1 ≤ q_skp B n p + 3; omega) (by decide)
    · rw [if_neg c6, if_neg c6, q_bI, if_pos rfl, w7]
      by_cases c7 : q_wd B n [111, 117, 116, 115, 105, 100, 101] (q_skp B n p) = true
      · have hl : q_skp B n p + 7 ≤ n := by rcases q_wd_lt _ _ c7 with h | h <;> simp at h <;> omega
        rw [if_pos c7, if_pos c7, q_bI, if_neg (by decide), ex]
        exact q_Xget h hT2 hTG (k := 5) hl (by show u + 1 ≤ q_skp B n p + 7; omega) (by decide)
      · have t40 := q_xsign (u := u) (s := s) (f := f) h hqn (c := 40) (by decide)
        rw [q_skp_skp] at t40
        rw [if_neg c7, if_neg c7, q_bI, if_pos rfl, show zF_X1_takeSign [.inr (.inl (1, 0, 0)), .inl (40 : Int32)] (q_O g 1 0 (q_x r (q_skp B n p) u s f)) = _ from t40]
        by_cases c8 : q_chr B n (q_skp B n p) 40 = true
        · have hl := (q_chr_lt c8).1
          rw [if_pos c8, if_pos c8, q_bI, if_neg (by decide), ex]
          have hf := hcmp (q_skp B n p + 1) u s f (by omega) (by omega)
          have hg := hcG (q_skp B n p + 1) (by omega)
          revert hf hg
          cases q_cmp B n (q_pT B n o) (q_skp B n p + 1) with
          | inl q =>
            rintro ⟨u', f', e⟩ -
            rw [e, q_bI, if_pos rfl, q_00]
            exact ⟨u', f', rfl⟩
          | inr y =>
            obtain ⟨q, l⟩ := y
            rintro ⟨f2, e, s2, b2⟩ ⟨g1, g2, g3⟩
            have t41 := q_xsign (u := u + l.length) (s := s) (f := f2) h g1 (c := 41) (by decide)
            rw [e, q_bI, if_neg (by decide), show zF_X1_takeSign [.inr (.inl (1, 0, 0)), .inl (41 : Int32)] (q_O g 1 0 (q_x r q (u + l.length) s f2)) = _ from t41]
            dsimp only
            by_cases c9 : q_chr B n (q_skp B n q) 41 = true
            · rw [if_pos c9, if_pos c9, q_bI, if_neg (by decide), q_11]
              exact ⟨f2, rfl, s2, b2⟩
            · rw [if_neg c9, if_neg c9, q_bI, if_pos rfl, q_00]
              exact ⟨_, f2, rfl⟩
        · rw [if_neg c8, if_neg c8, q_bI, if_pos rfl, q_00]
          exact ⟨u, f, rfl⟩
/-- sums and comparisons at the top -/
theorem q_XS (h : q_rd B n g r) : q_XF B n g r (zP1 40 1) (0 : Int32) (q_sum B n (q_pT B n 12)) := by
  intro p u s f hp hu
  have hT := q_XT h 12 (by decide) 39 (by decide)
  rw [q_zP1_1]
  exact q_Xsum h hT (q_TG_of (d := 0) (fun p hp => q_pT_gd 12 p 0 hp (by decide))) p u s f hp hu
theorem q_XC (h : q_rd B n g r) : q_XF B n g r (zP1 40 2) (0 : Int32) (q_cmp B n (q_pT B n 12)) := by
  have hT := q_XT h 12 (by decide) 38 (by decide)
  have hsum : q_XF B n g r (zP1 39 1) (nI (12 - 12)) (q_sum B n (q_pT B n 12)) := fun p u s f hp hu => by
    rw [q_zP1_1]
    exact q_Xsum h hT (q_TG_of (d := 0) (fun p hp => q_pT_gd 12 p 0 hp (by decide))) p u s f hp hu
  intro p u s f hp hu
  rw [q_zP1_2]
  exact q_Xcmp h hsum (q_TG_of (d := 0) (fun p hp => q_sum_gd (K := 24) (fun p d hp hd => q_pT_gd 12 p d hp hd) hp (by decide))) (fun p q l _ he => q_sum_end he) p u s f hp hu
end Xm
