/-! ===== pure part: the reference reads a term, whole ===== -/
section Mw
variable {B : Nat → Nat} {n : Nat} {g : zSG} {r : zLS} {s w o : Int32} {fc fn : Nat → Int32}
theorem q_M145 {P : Nat → List zVV → zSG → Option zRR} {N q c : Nat} (n1 : ¬ q_wd B n [97] q = true) (n2 : ¬ q_wd B n [98] q = true) (n3 : ¬ q_wd B n [105, 100] q = true) : q_okM g r c s w o fc fn (z_run (zM_X5_simple P) zc_X5_simple zk_X5_simple (N + 1) 145 [(0, .inr (.inl (3, 0, 0))), (2, .inr (.inr (q_Vw B n q)))] (q_O g 3 0 (q_m r (nI q) (-1) (nI c) s w o fc fn)) (0, 0)) (.inl q) := by
  rw [zu_X5_simple_145, if_neg (fun hc => n1 ((q_dA q).mp hc)), if_neg (fun hc => n2 ((q_dB q).mp hc)), if_neg (fun hc => n3 ((q_dI q).mp hc)), q_O_get, q_m3, q_mwrong, q_bV]
  exact ⟨_, _, _, _, _, _, _, rfl⟩
theorem q_M44z {P : Nat → List zVV → zSG → Option zRR} {N q c : Nat} {x : Int32} {V : Int64} : q_okM g r c s w (12 : Int32) fc fn (z_run (zM_X5_simple P) zc_X5_simple zk_X5_simple (N + 1) 44 [(0, .inr (.inl (3, 0, 0))), (1, .inl x), (2, .inr (.inr V))] (q_O g 3 0 (q_m r (nI q) (-1) (nI c) s w (12 : Int32) fc fn)) (0, 0)) (.inl q) := by
  rw [zu_X5_simple_44, q_O_get, q_m8, if_pos rfl, q_m3, q_mwrong, q_bV]
  exact ⟨_, _, _, _, _, _, _, rfl⟩
/-- behind get or outside -/
theorem q_M101 (h : q_rdM B n r) {P : Nat → List zVV → zSG → Option zRR} {o1 : Nat} {T : Nat → qRes} (hF : q_MF B n g r (P 0) (nI (o1 + 1)) T) (hT : q_TG n T) {N q c k : Nat} {wd : List Nat} (hk : (k = 4 ∧ wd = [103, 101, 116]) ∨ (k = 5 ∧ wd = [111, 117, 116, 115, 105, 100, 101])) (hq : q ≤ n) (hc : c ≤ q) (hwd : q_wd B n wd q = true) : q_okM g r c s w (nI o1) fc fn (z_run (zM_X5_simple P) zc_X5_simple zk_X5_simple (N + 1 + 1) 101 [(0, .inr (.inl (3, 0, 0))), (2, .inr (.inr (q_Vw B n q)))] (q_O g 3 0 (q_m r (nI q) (-1) (nI c) s w (nI (o1 + 1)) fc fn)) (0, 0)) (match T (q + wd.length) with
      | .inl r => .inl r
      | .inr (r, l) => .inr (r, l ++ [(k, 0)])) := by
  have hn := h.1
  have hl : q_lt wd := by
    rcases hk with ⟨_, e⟩ | ⟨_, e⟩ <;> rw [e] <;> exact q_lt_dec (by decide)
  have hwn : 1 ≤ wd.length := by
    rcases hk with ⟨_, e⟩ | ⟨_, e⟩ <;> rw [e] <;> decide
  have hln : q + wd.length ≤ n := by
    rcases q_wd_lt _ _ hwd with h | h
    · exact h
    · rw [h] at hwn
      exact absurd hwn (by decide)
  have hp := q_mpass (g := g) (b := -1) (c := nI c) (s := s) (w := w) (o := nI (o1 + 1)) (fc := fc) (fn := fn) h hq
  rw [q_wd_len hl hwd] at hp
  rw [zu_X5_simple_101, hp, q_bV]
  have hf := hF (q + wd.length) c s w fc fn hln (by omega)
  have hg := hT (q + wd.length) hln
  revert hf hg
  cases T (q + wd.length) with
  | inl q' =>
    rintro ⟨p', c', s', w', o', fc', fn', e⟩ ⟨g1, g2⟩
    have hb := q_nI_m1 (c := q') (by omega)
    rw [e, q_bV, q_mfine0 hb, q_bI, if_pos rfl, zu_X5_simple_134, q_gI, q_O_get, q_O_O, q_m8s]
    exact ⟨_, _, _, _, _, _, _, rfl⟩
  | inr y =>
    obtain ⟨q', l⟩ := y
    rintro ⟨f3, f4, e, s2, b2⟩ ⟨g1, g2, g3⟩
    rw [e, q_bV, q_mfine1, q_bI, if_neg (by decide)]
    have last : ∀ j : Nat, q_okM g r c s w (nI o1) fc fn (z_bV (zF_X5_emit [.inr (.inl (3, 0, 0)), .inl (nI j), .inl (0 : Int32)] (q_O g 3 0 (q_m r (nI q') (-1) (nI (c + l.length)) s w (nI (o1 + 1)) f3 f4))) (fun g6 => z_run (zM_X5_simple P) zc_X5_simple zk_X5_simple (N + 1) 134 [(0, .inr (.inl (3, 0, 0)))] g6 (0, 0))) (.inr (q', l ++ [(j, 0)])) := by
      intro j
      have hlen : c + l.length + 1 = c + (l ++ [(j, 0)]).length := by simp only [List.length_append, List.length_cons, List.length_nil]; omega
      rw [q_memit (by omega), q_bV, zu_X5_simple_134, q_gI, q_O_get, q_O_O, q_m8, nI_pred, q_m8s, hlen]
      refine ⟨_, _, rfl, q_spMO_app _ _ c ?_ ⟨⟨?_, ?_⟩, trivial⟩, fun i hi => ?_⟩
      · exact q_spMO_cong l c (fun i h5 h6 => ⟨pk_un (by omega), pk_un (by omega)⟩) s2
      · rw [Nat.zero_add]
        exact pk_us
      · rw [Nat.zero_add]
        exact pk_us
      · rw [pk_un (by omega), pk_un (by omega)]
        exact b2 i hi
    dsimp only
    rcases hk with ⟨e1, e2⟩ | ⟨e1, e2⟩
    · subst e1 e2
      rw [if_pos ((q_dG q).mpr hwd)]
      exact last 4
    · subst e1 e2
      rw [if_neg (fun hc => absurd (q_wd_un hl (q_lt_dec (by decide)) hwd ((q_dG q).mp hc)) (by decide))]
      exact last 5
theorem q_MT (h : q_rdM B n r) : ∀ (o : Nat), o ≤ 12 → ∀ d, 3 * o + 1 ≤ d → q_MF B n g r (zP5 d 0) (nI (12 - o)) (q_pT B n o)
  | 0, ho, d, hd => by
    obtain ⟨d, rfl⟩ : ∃ d', d = d' + 1 := ⟨d - 1, by omega⟩
    intro p c s w fc fn hp hc
    rw [q_zP5_0, q_pT]
    refine q_Mtms (N := 99996) h hp hc (fun n1 n2 n3 => ?_)
    unfold q_restM
    split
    · exact q_M44z
    · split
      · exact q_M44z
      · split
        · exact q_M44z
        · exact q_M145 n1 n2 n3
  | o + 1, ho, d, hd => by
    obtain ⟨d, rfl⟩ : ∃ d', d = d' + 1 + 1 + 1 := ⟨d - 3, by omega⟩
    have hn := h.1
    have hB := fun i hi => (h.2.1 i hi).1
    have hT0 := q_MT h o (by omega) d (by omega)
    have hT2 := q_MT h o (by omega) (d + 1 + 1) (by omega)
    have hgd : ∀ p, p ≤ n → q_gd (n := n) p 0 (q_pT B n o p) := fun p hp => q_pT_gd o p 0 hp (by omega)
    have hTG := q_TG_of hgd
    have hsum : q_MF B n g r (zP5 (d + 1) 1) (nI (12 - o)) (q_sum B n (q_pT B n o)) := fun p c s w fc fn hp hc => by
      rw [q_zP5_1]
      exact q_Mrow h hT0 hTG p c s w fc fn hp hc
    have hsG : q_TG n (q_sum B n (q_pT B n o)) := q_TG_of (d := 0) (fun p hp => q_sum_gd (K := 2 * o) (fun p d hp hd => q_pT_gd o p d hp hd) hp (by omega))
    have hcmp : q_MF B n g r (zP5 (d + 1 + 1) 2) (nI (12 - o)) (q_cmp B n (q_pT B n o)) := fun p c s w fc fn hp hc => by
      rw [q_zP5_2]
      exact q_Mcmp h hsum hsG (fun p q l _ he => q_sum_end he) p c s w fc fn hp hc
    have hcG : q_TG n (q_cmp B n (q_pT B n o)) := q_TG_of (d := 0) (fun p hp => q_cmp_gd (K := 2 * o) (fun p d hp hd => q_pT_gd o p d hp hd) hp (by omega))
    intro p c s w fc fn hp hc
    have hq := q_skp_ge (B := B) (n := n) p
    have hqn := q_skp_le (B := B) hp
    have eo : 12 - o = 11 - o + 1 := by omega
    have eo2 : 12 - (o + 1) = 11 - o := by omega
    rw [eo] at hT2 hcmp
    rw [q_zP5_0, q_pT, eo2]
    refine q_Mtms (N := 99996) h hp hc (fun n1 n2 n3 => ?_)
    have e40 := q_hv_eq hB (i := q_skp B n p) (c := 40) (by decide) (by decide)
    have n12 : ¬ nI (11 - o) = (12 : Int32) := fun hx => by
      have := (nI_eq (b := 12) (by omega) (by decide)).mp hx
      omega
    have at101 : ∀ (k : Nat) (wd : List Nat), ((k = 4 ∧ wd = [103, 101, 116]) ∨ (k = 5 ∧ wd = [111, 117, 116, 115, 105, 100, 101])) → q_wd B n wd (q_skp B n p) = true → ¬ q_hv B n (q_skp B n p) = (40 : Int32) → q_okM g r c s w (nI (11 - o)) fc fn (z_run (zM_X5_simple (zP5 (d + 1 + 1))) zc_X5_simple zk_X5_simple (99996 + 1 + 1 + 1) 44 [(0, .inr (.inl (3, 0, 0))), (1, .inl (q_hv B n (q_skp B n p))), (2, .inr (.inr (q_Vw B n (q_skp B n p))))] (q_O g 3 0 (q_m r (nI (q_skp B n p)) (-1) (nI c) s w (nI (11 - o)) fc fn)) (0, 0)) (match q_pT B n o (q_skp B n p + wd.length) with
      | .inl r => .inl r
      | .inr (r, l) => .inr (r, l ++ [(k, 0)])) := by
      intro k wd hk hwd hn40
      rw [zu_X5_simple_44, q_O_get, q_m8, if_neg n12, if_neg hn40, q_gI, q_O_get, q_O_O, nI_1, q_m8s]
      exact q_M101 h hT2 hTG hk hqn (by omega) hwd
    unfold q_restM q_tmo
    by_cases c6 : q_wd B n [103, 101, 116] (q_skp B n p) = true
    · have hn40 : ¬ q_hv B n (q_skp B n p) = (40 : Int32) := fun hx => q_wd_40 (by decide) c6 (e40.mp hx)
      rw [if_neg hn40, if_pos ((q_dG _).mpr c6), if_pos c6]
      exact at101 4 [103, 101, 116] (Or.inl ⟨rfl, rfl⟩) c6 hn40
    · rw [if_neg c6]
      by_cases c7 : q_wd B n [111, 117, 116, 115, 105, 100, 101] (q_skp B n p) = true
      · have hn40 : ¬ q_hv B n (q_skp B n p) = (40 : Int32) := fun hx => q_wd_40 (by decide) c7 (e40.mp hx)
        rw [if_neg hn40, if_neg (fun hx => c6 ((q_dG _).mp hx)), if_pos ((q_dO _).mpr c7), if_pos c7]
        exact at101 5 [111, 117, 116, 115, 105, 100, 101] (Or.inr ⟨rfl, rfl⟩) c7 hn40
      · rw [if_neg c7]
        by_cases c8 : q_chr B n (q_skp B n p) 40 = true
        · have hl := (q_chr_lt c8).1
          rw [if_pos (show q_hv B n (q_skp B n p) = (40 : Int32) from e40.mpr c8), if_pos c8, zu_X5_simple_44, q_O_get, q_m8, if_neg n12, if_pos (show q_hv B n (q_skp B n p) = (40 : Int32) from e40.mpr c8), q_m3, nI_1, nI_1]
          simp only [q_gI, q_O_get, q_O_O, q_m8s, q_m3s]
          have hf := hcmp (q_skp B n p + 1) c s w fc fn (by omega) (by omega)
          have hg := hcG (q_skp B n p + 1) (by omega)
          revert hf hg
          cases q_cmp B n (q_pT B n o) (q_skp B n p + 1) with
          | inl q =>
            rintro ⟨p', c', s', w', o', fc', fn', e⟩ ⟨g1, g2⟩
            have hb := q_nI_m1 (c := q) (by omega)
            rw [e, q_bV, q_mneed0 hb, q_bV, zu_X5_simple_134, q_gI, q_O_get, q_O_O, q_m8s]
            exact ⟨_, _, _, _, _, _, _, rfl⟩
          | inr y =>
            obtain ⟨q, l⟩ := y
            rintro ⟨f3, f4, e, s2, b2⟩ ⟨g1, g2, g3⟩
            have t41 := q_mneed (g := g) (c := nI (c + l.length)) (s := s) (w := w) (o := nI (11 - o + 1)) (fc := f3) (fn := f4) h g1 (k := 41) (by decide) (by decide)
            rw [e, q_bV, show zF_X5_need [.inr (.inl (3, 0, 0)), .inl (41 : Int32)] (q_O g 3 0 (q_m r (nI q) (-1) (nI (c + l.length)) s w (nI (11 - o + 1)) f3 f4)) = _ from t41]
            dsimp only
            by_cases c9 : q_chr B n (q_skp B n q) 41 = true
            · rw [if_pos c9, if_pos c9, q_bV, zu_X5_simple_134, q_gI, q_O_get, q_O_O, q_m8, nI_pred, q_m8s]
              exact ⟨f3, f4, rfl, s2, b2⟩
            · rw [if_neg c9, if_neg c9, q_bV, zu_X5_simple_134, q_gI, q_O_get, q_O_O, q_m8s]
              exact ⟨_, _, _, _, _, _, _, rfl⟩
        · rw [if_neg (show ¬ q_hv B n (q_skp B n p) = (40 : Int32) from fun hx => c8 (e40.mp hx)), if_neg (fun hx => c6 ((q_dG _).mp hx)), if_neg (fun hx => c7 ((q_dO _).mp hx)), if_neg c8]
          exact q_M145 n1 n2 n3
theorem q_MSum (h : q_rdM B n r) : q_MF B n g r (zP5 40 1) (0 : Int32) (q_sum B n (q_pT B n 12)) := by
  intro p c s w fc fn hp hc
  have hT := q_MT (g := g) h 12 (by decide) 39 (by decide)
  rw [q_zP5_1]
  exact q_Mrow h hT (q_TG_of (d := 0) (fun p hp => q_pT_gd 12 p 0 hp (by decide))) p c s w fc fn hp hc
theorem q_MCmp (h : q_rdM B n r) : q_MF B n g r (zP5 40 2) (0 : Int32) (q_cmp B n (q_pT B n 12)) := by
  have hT := q_MT (g := g) h 12 (by decide) 38 (by decide)
  have hsum : q_MF B n g r (zP5 39 1) (nI (12 - 12)) (q_sum B n (q_pT B n 12)) := fun p c s w fc fn hp hc => by
    rw [q_zP5_1]
    exact q_Mrow h hT (q_TG_of (d := 0) (fun p hp => q_pT_gd 12 p 0 hp (by decide))) p c s w fc fn hp hc
  intro p c s w fc fn hp hc
  rw [q_zP5_2]
  exact q_Mcmp h hsum (q_TG_of (d := 0) (fun p hp => q_sumT hp (by decide))) (fun p q l _ he => q_sum_end he) p c s w fc fn hp hc
end Mw
