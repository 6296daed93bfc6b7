/-! ===== pure part: the reference reads sums, comparisons, terms ===== -/
section Mu
variable {B : Nat → Nat} {n : Nat} {g : zSG} {r : zLS} {s w o : Int32} {fc fn : Nat → Int32}
theorem q_Mrow (h : q_rdM B n r) {P : Nat → List zVV → zSG → Option zRR} {T : Nat → qRes} (hF : q_MF B n g r (P 0) o T) (hT : q_TG n T) : q_MF B n g r (fun vs g => z_run (zM_X5_row P) zc_X5_row zk_X5_row 100000 0 [(0, .inr (.inl (3, 0, 0)))] g (0, 0)) o (q_sum B n T) := by
  have hn := h.1
  intro p c s w fc fn hp hc
  have hf := hF p c s w fc fn hp hc
  have hg := hT p hp
  show q_okM g r c s w o fc fn (z_run (zM_X5_row P) zc_X5_row zk_X5_row (99998 + 1 + 1) 0 [(0, .inr (.inl (3, 0, 0)))] (q_O g 3 0 (q_m r (nI p) (-1) (nI c) s w o fc fn)) (0, 0)) (q_sum B n T p)
  rw [zu_X5_row_0]
  unfold q_sum
  revert hf hg
  cases T p with
  | inl q =>
    rintro ⟨p', c', s', w', o', fc', fn', e⟩ ⟨g1, g2⟩
    have hb := q_nI_m1 (c := q) (by omega)
    rw [e, q_bV, zu_X5_row_4, q_mfine0 hb, q_bI, if_pos rfl]
    exact ⟨_, _, _, _, _, _, _, rfl⟩
  | inr y =>
    obtain ⟨q, l⟩ := y
    rintro ⟨f3, f4, e, s2, b2⟩ ⟨g1, g2, g3⟩
    rw [e, q_bV]
    exact q_Mrow4 h hF hT 400 q 0 (99998 + 1) p l f3 f4 (by omega) (by omega) g1 hc (by omega) (by omega) s2 b2
def q_whb (P : Nat → List zVV → zSG → Option zRR) (r15 : Int32) (g14 : zSG) : Option zRR := (z_bV ((P 1) [.inr (.inl (3, 0, 0))] (z_gI g14 3 0 3 (((g14 3 0).1 3) + (1 : Int32)))) (fun g16 => (z_bI (zF_X5_fine [.inr (.inl (3, 0, 0))] g16) (fun r18 g17 => (if r18 = 0 then some (.inl none, g17) else (if r15 = (60 : Int32) then (z_bV (zF_X5_emit [.inr (.inl (3, 0, 0)), .inl (9 : Int32), .inl (0 : Int32)] g17) (fun g20 => some (.inl none, g20))) else (z_bV (zF_X5_emit [.inr (.inl (3, 0, 0)), .inl (10 : Int32), .inl (0 : Int32)] g17) (fun g19 => some (.inl none, g19)))))))))
theorem q_Mcmp (h : q_rdM B n r) {P : Nat → List zVV → zSG → Option zRR} {T : Nat → qRes} (hF : q_MF B n g r (P 1) o (q_sum B n T)) (hT : q_TG n (q_sum B n T)) (hend : ∀ p q l, p ≤ n → q_sum B n T p = .inr (q, l) → ¬ (q < n ∧ B q = 32)) : q_MF B n g r (fun vs g => z_run (zM_X5_whole P) zc_X5_whole zk_X5_whole 100000 0 [(0, .inr (.inl (3, 0, 0)))] g (0, 0)) o (q_cmp B n T) := by
  have hn := h.1
  have hB := fun i hi => (h.2.1 i hi).1
  intro p c s w fc fn hp hc
  have hf := hF p c s w fc fn hp hc
  have hg := hT p hp
  have he := hend p
  show q_okM g r c s w o fc fn (z_run (zM_X5_whole P) zc_X5_whole zk_X5_whole (99999 + 1) 0 [(0, .inr (.inl (3, 0, 0)))] (q_O g 3 0 (q_m r (nI p) (-1) (nI c) s w o fc fn)) (0, 0)) (q_cmp B n T p)
  rw [zu_X5_whole_0]
  unfold q_cmp
  revert hf hg he
  cases q_sum B n T p with
  | inl q =>
    rintro ⟨p', c', s', w', o', fc', fn', e⟩ ⟨g1, g2⟩ -
    have hb := q_nI_m1 (c := q) (by omega)
    rw [e, q_bV, q_mfine0 hb, q_bI, if_pos rfl, if_neg (by decide), if_neg (by decide)]
    exact ⟨_, _, _, _, _, _, _, rfl⟩
  | inr y =>
    obtain ⟨q, l⟩ := y
    rintro ⟨f3, f4, e, s2, b2⟩ ⟨g1, g2, g3⟩ he
    have hsk : q_skp B n q = q := q_skp_id (he q l hp rfl)
    have hh := q_mhere (g := g) (b := -1) (c := nI (c + l.length)) (s := s) (w := w) (o := o) (fc := f3) (fn := f4) h g1
    rw [hsk] at hh
    have e1 := q_hv_eq hB (i := q) (c := 60) (by decide) (by decide)
    have e2 := q_hv_eq hB (i := q) (c := 61) (by decide) (by decide)
    rw [e, q_bV, q_mfine1, q_bI, if_neg (by decide), hh, q_bI]
    have blk : ∀ (k : Nat), (q_hv B n q = (60 : Int32) → k = 9) → (¬ q_hv B n q = (60 : Int32) → k = 10) → q + 1 ≤ n → q_okM g r c s w o fc fn (q_whb P (q_hv B n q) (q_O g 3 0 (q_m r (nI q) (-1) (nI (c + l.length)) s w o f3 f4))) (match q_sum B n T (q + 1) with | .inl r => .inl r | .inr (r, l') => .inr (r, l ++ l' ++ [(k, 0)])) := by
      intro k k1 k2 hq1
      unfold q_whb
      rw [q_gI, q_O_get, q_O_O, q_m3, nI_1, q_m3s]
      have hf := hF (q + 1) (c + l.length) s w f3 f4 hq1 (by omega)
      have hg := hT (q + 1) hq1
      revert hf hg
      cases q_sum B n T (q + 1) with
      | inl q' =>
        rintro ⟨p', c', s', w', o', fc', fn', e⟩ ⟨g1, g2⟩
        have hb := q_nI_m1 (c := q') (by omega)
        rw [e, q_bV, q_mfine0 hb, q_bI, if_pos rfl]
        exact ⟨_, _, _, _, _, _, _, rfl⟩
      | inr y =>
        obtain ⟨q', l'⟩ := y
        rintro ⟨f5, f6, e, s3, b3⟩ ⟨t1, t2, t3⟩
        rw [e, q_bV, q_mfine1, q_bI, if_neg (by decide)]
        have last : q_okM g r c s w o fc fn (z_bV (zF_X5_emit [.inr (.inl (3, 0, 0)), .inl (nI k), .inl (0 : Int32)] (q_O g 3 0 (q_m r (nI q') (-1) (nI (c + l.length + l'.length)) s w o f5 f6))) (fun g20 => some (.inl none, g20))) (.inr (q', l ++ l' ++ [(k, 0)])) := by
          have hlen : c + l.length + l'.length + 1 = c + (l ++ l' ++ [(k, 0)]).length := by simp only [List.length_append, List.length_cons, List.length_nil]; omega
          rw [q_memit (by omega), q_bV, hlen]
          refine ⟨_, _, rfl, q_spMO_app _ _ c (q_spMO_app _ _ c ?_ ?_) ?_, fun i hi => ?_⟩
          · refine q_spMO_cong l c (fun i h5 h6 => ?_) s2
            rw [pk_un (by omega), pk_un (by omega)]
            exact b3 (0 + i) (by omega)
          · exact q_spMO_cong l' (c + l.length) (fun i h5 h6 => ⟨pk_un (by omega), pk_un (by omega)⟩) s3
          · refine ⟨⟨?_, ?_⟩, trivial⟩
            · rw [List.length_append, show 0 + (c + (l.length + l'.length)) = c + l.length + l'.length by omega]
              exact pk_us
            · rw [List.length_append, show 0 + (c + (l.length + l'.length)) = c + l.length + l'.length by omega]
              exact pk_us
          · rw [pk_un (by omega), pk_un (by omega), (b3 i (by omega)).1, (b3 i (by omega)).2]
            exact b2 i hi
        by_cases c1 : q_hv B n q = (60 : Int32)
        · have := k1 c1
          subst this
          rw [if_pos c1]
          exact last
        · have := k2 c1
          subst this
          rw [if_neg c1]
          exact last
    dsimp only
    by_cases c1 : q_chr B n q 60 = true
    · have c1' : q_hv B n q = (60 : Int32) := e1.mpr c1
      rw [if_pos c1', if_pos c1]
      exact blk 9 (fun _ => rfl) (fun hx => absurd c1' hx) (q_chr_lt c1).1
    · have c1' : ¬ q_hv B n q = (60 : Int32) := fun hx => c1 (e1.mp hx)
      rw [if_neg c1', if_neg c1]
      by_cases c2 : q_chr B n q 61 = true
      · rw [if_pos (show q_hv B n q = (61 : Int32) from e2.mpr c2), if_pos c2]
        exact blk 10 (fun hx => absurd hx c1') (fun _ => rfl) (q_chr_lt c2).1
      · rw [if_neg (show ¬ q_hv B n q = (61 : Int32) from fun hx => c2 (e2.mp hx)), if_neg c2]
        exact ⟨f3, f4, rfl, s2, b2⟩
/-! words -/
theorem q_lt_rev {l : List Nat} (h : q_lt l) : q_lt l.reverse := fun x hx => h x (List.mem_reverse.mp hx)
theorem q_wdec {wd : List Nat} {K : Int64} (hK : K = lN (q_cr wd.reverse)) (hw : q_lt wd) (h7 : wd.length ≤ 7) (h0 : wd ≠ []) (q : Nat) : lg_cmp (q_cv (q_lrw B n (n - q) q).reverse) K = 0 ↔ q_wd B n wd q = true := by
  rw [lg_cmp_eq, hK, q_cv_eq (q_lt_rev (q_lw_lt _ _)) (q_lt_rev hw) (by rw [List.length_reverse]; exact h7) (fun hx => h0 (List.reverse_eq_nil_iff.mp hx)), List.reverse_inj]
  exact (q_lw_wd wd (n - q) q hw (by omega)).symm
theorem q_lt_dec {l : List Nat} (h : l.all (fun x => decide (97 ≤ x) && decide (x ≤ 122)) = true) : q_lt l := by
  intro x hx
  have := List.all_eq_true.mp h x hx
  simpa using this
theorem q_wd_un {w1 w2 : List Nat} {q : Nat} (h1 : q_lt w1) (h2 : q_lt w2) (k1 : q_wd B n w1 q = true) (k2 : q_wd B n w2 q = true) : w1 = w2 := by
  rw [q_lw_wd w1 (n - q) q h1 (by omega)] at k1
  rw [q_lw_wd w2 (n - q) q h2 (by omega)] at k2
  exact k1.symm.trans k2
theorem q_wd_40 {x : Nat} {t : List Nat} {q : Nat} (hx : 97 ≤ x) (k : q_wd B n (x :: t) q = true) : ¬ q_chr B n q 40 = true := fun hc => by
  rw [q_wd, Bool.and_eq_true] at k
  have h1 := (q_chr_lt k.1).2
  have h2 := (q_chr_lt hc).2
  omega
theorem q_wd_len {wd : List Nat} {q : Nat} (h : q_lt wd) (k : q_wd B n wd q = true) : (q_lrw B n (n - q) q).length = wd.length := by
  rw [q_lw_wd wd (n - q) q h (by omega)] at k
  rw [k]
theorem q_okM_b {c : Nat} {out : Option zRR} {R : qRes} (h : q_okM g r c s w o fc fn out R) : q_okM g r c s w o fc fn (z_bV out (fun g7 => some (.inl none, g7))) R := by
  cases R with
  | inl q =>
    obtain ⟨p', c', s', w', o', fc', fn', e⟩ := h
    rw [e, q_bV]
    exact ⟨_, _, _, _, _, _, _, rfl⟩
  | inr y =>
    obtain ⟨q, l⟩ := y
    obtain ⟨f3, f4, e, s2, b2⟩ := h
    rw [e, q_bV]
    exact ⟨f3, f4, rfl, s2, b2⟩
end Mu
