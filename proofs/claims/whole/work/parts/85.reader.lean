/-! ===== pure part: the program's reader, its small steps ===== -/
def q_x (r : zLS) (p u s : Nat) (f : Nat → Int32) : zLS := (upd (upd (upd r.1 3 (nI p)) 4 (nI u)) 5 (nI s), va_up r.2 0 f)
def q_bv (B : Nat → Nat) (n i : Nat) : Int32 := if i < n then nI (B i) else -1
def q_ws (w : Nat) : List Nat := [[112, 117, 116], [115, 97, 121], [119, 104, 101, 110], [97], [98], [105, 100], [103, 101, 116], [111, 117, 116, 115, 105, 100, 101]].getD w []
theorem q_ws_len : ∀ w : Fin 8, zLen.getD w.val 0 = (q_ws w.val).length := by decide +kernel
theorem q_ws_ch : ∀ w : Fin 8, ∀ i : Fin 7, i.val < (q_ws w.val).length → zCh w.val (nI i.val) = nI ((q_ws w.val).getD i.val 0) ∧ (q_ws w.val).getD i.val 0 < 256 := by decide +kernel
theorem q_ws_7 : ∀ w : Fin 8, (q_ws w.val).length ≤ 7 := by decide +kernel
section Rd
variable {B : Nat → Nat} {n : Nat} {g : zSG} {r : zLS} {p u s : Nat} {f : Nat → Int32}
def q_rd (B : Nat → Nat) (n : Nat) (g : zSG) (r : zLS) : Prop := n ≤ 400 ∧ (∀ i, i < n → B i < 256 ∧ (g 0 0).2 0 i = nI (B i)) ∧ r.1 1 = 1 ∧ r.1 2 = nI n
theorem q_x1 : (q_x r p u s f).1 1 = r.1 1 := rfl
theorem q_x2 : (q_x r p u s f).1 2 = r.1 2 := rfl
theorem q_x3 : (q_x r p u s f).1 3 = nI p := rfl
theorem q_x4 : (q_x r p u s f).1 4 = nI u := rfl
theorem q_x5 : (q_x r p u s f).1 5 = nI s := rfl
theorem q_xr : (q_x r p u s f).2 0 = f := rfl
theorem q_x3s (v : Nat) : (upd (q_x r p u s f).1 3 (nI v), (q_x r p u s f).2) = q_x r v u s f := by
  refine Prod.ext (funext fun k => ?_) rfl
  by_cases h : k = 3 <;> simp [q_x, upd, h]
theorem q_x5s (v : Nat) : (upd (q_x r p u s f).1 5 (nI v), (q_x r p u s f).2) = q_x r p u v f := by
  unfold q_x
  simp only [fa_upd_twice]
theorem q_x4s (v : Nat) (w : Nat → Int32) : (upd (q_x r p u s f).1 4 (nI v), va_up (q_x r p u s f).2 0 w) = q_x r p v s w := by
  refine Prod.ext (funext fun k => ?_) ?_
  · by_cases h : k = 4 <;> simp [q_x, upd, h]
  · unfold q_x
    rw [bx_uu]
theorem q_x0s (w : Nat → Int32) : ((q_x r p u s f).1, va_up (q_x r p u s f).2 0 w) = q_x r p u s w := by
  unfold q_x
  rw [bx_uu]
theorem q_xbyte (h : q_rd B n g r) {i : Nat} (hi : i < 2 ^ 31) : zF_X1_byteAt [.inr (.inl (1, 0, 0)), .inl (nI i)] (q_O g 1 0 (q_x r p u s f)) = some (.inl (some (.inl (q_bv B n i))), q_O g 1 0 (q_x r p u s f)) := by
  obtain ⟨hn, hB, h1, h2⟩ := h
  rw [(ze_X1_byteAt (nI i) _).trans (zu_X1_byteAt_0 99999 (nI i) _), q_O_get, q_x1, q_x2, h1, h2, if_neg (nI_pos hi)]
  unfold q_bv
  by_cases c : i < n
  · rw [if_neg (nI_ge c (by omega)), if_pos rfl, if_pos (q_inb' (show i < 400 by omega) (by decide)), nI_clamp hi, q_O_c _ _ _ (show (0 : Nat) ≠ 1 by decide), (hB i c).2, if_pos c]
  · rw [if_pos (nI_le (by omega) hi), if_neg c]
theorem q_bv_eq (hB : ∀ i, i < n → B i < 256) {i c : Nat} (hc : c < 256) : q_bv B n i = nI c ↔ q_chr B n i c = true := by
  unfold q_bv q_chr
  by_cases h : i < n
  · have := hB i h
    rw [if_pos h, nI_eq (by omega) (by omega)]
    simp [h]
  · rw [if_neg h]
    simp only [h, decide_false, Bool.false_and, Bool.false_eq_true, iff_false]
    intro hc2
    exact q_nI_m1 (by omega) hc2.symm
theorem q_xdig (hB : ∀ i, i < n → B i < 256) (i : Nat) (g' : zSG) : zF_X1_isDigit [.inl (q_bv B n i)] g' = some (.inl (some (.inl (if q_dgt B n i then 1 else 0))), g') := by
  rw [(ze_X1_isDigit _ g').trans (zu_X1_isDigit_0 99999 _ g')]
  unfold q_bv q_dgt
  by_cases h : i < n
  · have := hB i h
    rw [if_pos h]
    by_cases c1 : B i < 48
    · rw [if_pos (show nI (B i) < (48 : Int32) from nI_lt (b := 48) c1 (by decide)), q_00]
      have : ¬ 48 ≤ B i := by omega
      simp [this]
    · rw [if_neg (show ¬ nI (B i) < (48 : Int32) from nI_nlt (b := 48) (by omega) (by omega))]
      by_cases c2 : 57 < B i
      · rw [if_pos (show (57 : Int32) < nI (B i) from nI_lt (a := 57) c2 (by omega)), q_00]
        have : ¬ B i ≤ 57 := by omega
        simp [this]
      · rw [if_neg (show ¬ (57 : Int32) < nI (B i) from nI_nlt (a := 57) (by omega) (by decide)), q_11]
        have h1 : 48 ≤ B i := by omega
        have h2 : B i ≤ 57 := by omega
        simp [h, h1, h2]
  · rw [if_neg h, if_pos (by decide), q_00]
    simp [h]
theorem q_xlet (hB : ∀ i, i < n → B i < 256) (i : Nat) (g' : zSG) : zF_X1_isLetter [.inl (q_bv B n i)] g' = some (.inl (some (.inl (if q_ltr B n i then 1 else 0))), g') := by
  rw [(ze_X1_isLetter _ g').trans (zu_X1_isLetter_0 99999 _ g')]
  unfold q_bv q_ltr
  by_cases h : i < n
  · have := hB i h
    rw [if_pos h]
    by_cases c1 : B i < 97
    · rw [if_pos (show nI (B i) < (97 : Int32) from nI_lt (b := 97) c1 (by decide)), q_00]
      have : ¬ 97 ≤ B i := by omega
      simp [this]
    · rw [if_neg (show ¬ nI (B i) < (97 : Int32) from nI_nlt (b := 97) (by omega) (by omega))]
      by_cases c2 : 122 < B i
      · rw [if_pos (show (122 : Int32) < nI (B i) from nI_lt (a := 122) c2 (by omega)), q_00]
        have : ¬ B i ≤ 122 := by omega
        simp [this]
      · rw [if_neg (show ¬ (122 : Int32) < nI (B i) from nI_nlt (a := 122) (by omega) (by decide)), q_11]
        have h1 : 97 ≤ B i := by omega
        have h2 : B i ≤ 122 := by omega
        simp [h, h1, h2]
  · rw [if_neg h, if_pos (by decide), q_00]
    simp [h]
theorem q_xskip (h : q_rd B n g r) (hp : p ≤ n) : zF_X1_skipBlanks [.inr (.inl (1, 0, 0))] (q_O g 1 0 (q_x r p u s f)) = some (.inl none, q_O g 1 0 (q_x r (q_skp B n p) u s f)) := by
  obtain ⟨hn, hB, h1, h2⟩ := h
  have key : ∀ (m p N : Nat), p + m = n → m < N → z_run zM_X1_skipBlanks zc_X1_skipBlanks zk_X1_skipBlanks N 0 [(0, .inr (.inl (1, 0, 0)))] (q_O g 1 0 (q_x r p u s f)) (0, 0) = some (.inl none, q_O g 1 0 (q_x r (q_sp B n m p) u s f)) := by
    intro m
    induction m with
    | zero =>
      intro p N hp hN
      obtain ⟨N, rfl⟩ : ∃ N', N = N' + 1 := ⟨N - 1, by omega⟩
      rw [zu_X1_skipBlanks_0, q_O_get, q_x2, q_x3, h2, if_pos (nI_le (by omega) (by omega)), q_sp]
    | succ m ih =>
      intro p N hp hN
      obtain ⟨N, rfl⟩ : ∃ N', N = N' + 1 := ⟨N - 1, by omega⟩
      have hb := hB p (by omega)
      rw [zu_X1_skipBlanks_0, q_O_get, q_x1, q_x2, q_x3, h1, h2, if_neg (nI_ge (by omega) (by omega)), if_pos rfl, if_pos (q_inb' (show p < 400 by omega) (by decide)), nI_clamp (by omega), q_O_c _ _ _ (show (0 : Nat) ≠ 1 by decide), hb.2, nI_1, q_sp]
      by_cases c : B p = 32
      · rw [if_pos (show nI (B p) = (32 : Int32) by rw [c]; rfl), if_pos ⟨by omega, c⟩, q_gI, q_O_get, q_O_O, q_x3s]
        exact ih (p + 1) N (by omega) (by omega)
      · rw [if_neg (show ¬ nI (B p) = (32 : Int32) from fun hc => c ((nI_eq (b := 32) (by omega) (by decide)).mp hc)), if_neg (fun hc => c hc.2)]
  exact (ze_X1_skipBlanks _).trans (key (n - p) p 100000 (by omega) (by omega))
theorem q_xsign (h : q_rd B n g r) (hp : p ≤ n) {c : Nat} (hc : c < 256) : zF_X1_takeSign [.inr (.inl (1, 0, 0)), .inl (nI c)] (q_O g 1 0 (q_x r p u s f)) = if q_chr B n (q_skp B n p) c then some (.inl (some (.inl 1)), q_O g 1 0 (q_x r (q_skp B n p + 1) u s f)) else some (.inl (some (.inl 0)), q_O g 1 0 (q_x r (q_skp B n p) u s f)) := by
  have hq := q_skp_le (B := B) hp
  have hn := h.1
  have e := q_bv_eq (fun i hi => (h.2.1 i hi).1) (i := q_skp B n p) hc
  rw [(ze_X1_takeSign (nI c) _).trans (zu_X1_takeSign_0 99999 (nI c) _), q_xskip h hp, q_bV, q_O_get, q_x3, q_xbyte h (by omega), q_bI]
  cases ht : q_chr B n (q_skp B n p) c with
  | true =>
    rw [if_pos (e.mpr ht), q_11, q_gI, q_O_get, q_x3, nI_1, q_O_O, q_x3s]
    rfl
  | false =>
    rw [if_neg (fun hc2 => by rw [e.mp hc2] at ht; cases ht), q_00]
    rfl
theorem q_xword (h : q_rd B n g r) (hp : p ≤ n) {w : Nat} (hw : w < 8) : zF_X1_takeWord [.inr (.inl (1, 0, 0)), .inr (.inl (6, w, 0))] (q_O g 1 0 (q_x r p u s f)) = if q_wd B n (q_ws w) p then some (.inl (some (.inl 1)), q_O g 1 0 (q_x r (p + (q_ws w).length) u s f)) else some (.inl (some (.inl 0)), q_O g 1 0 (q_x r p u s f)) := by
  have hn := h.1
  have hB := fun i hi => (h.2.1 i hi).1
  have h7 : (q_ws w).length ≤ 7 := q_ws_7 ⟨w, hw⟩
  have hlen : zLen.getD w 0 = (q_ws w).length := q_ws_len ⟨w, hw⟩
  have hl : ∀ g', zF_slen [.inr (.inl (6, w, 0))] g' = some (.inl (some (.inl (nI (q_ws w).length))), g') := fun g' => by
    show (if w < 8 then (some (Sum.inl (some (Sum.inl (Int32.ofNat (zLen.getD w 0)))), g') : Option zRR) else none) = _
    rw [if_pos hw, hlen]
    rfl
  have key : ∀ (m i N : Nat), i + m = (q_ws w).length → m < N → z_run zM_X1_takeWord zc_X1_takeWord zk_X1_takeWord N 2 [(0, .inr (.inl (1, 0, 0))), (1, .inr (.inl (6, w, 0))), (2, .inl (nI i))] (q_O g 1 0 (q_x r p u s f)) (0, 0) = if q_wd B n ((q_ws w).drop i) (p + i) then some (.inl (some (.inl 1)), q_O g 1 0 (q_x r (p + (q_ws w).length) u s f)) else some (.inl (some (.inl 0)), q_O g 1 0 (q_x r p u s f)) := by
    intro m
    induction m with
    | zero =>
      intro i N hi hN
      obtain ⟨N, rfl⟩ : ∃ N', N = N' + 1 := ⟨N - 1, by omega⟩
      have e : i = (q_ws w).length := by omega
      subst e
      rw [zu_X1_takeWord_2, hl, q_bI, if_pos (nI_le (Nat.le_refl _) (by omega)), hl, q_bI, q_O_get, q_x3, nI_add, q_xbyte h (by omega), q_bI, q_xlet hB, q_bI, List.drop_length, q_wd]
      cases ht : q_ltr B n (p + (q_ws w).length) with
      | true =>
        rw [if_neg (show ¬ (if true = true then (1 : Int32) else 0) = 0 by decide), q_00]
        rfl
      | false =>
        rw [if_pos (show (if false = true then (1 : Int32) else 0) = 0 by decide), hl, q_bI, q_11, q_gI, q_O_get, q_x3, nI_add, q_O_O, q_x3s]
        rfl
    | succ m ih =>
      intro i N hi hN
      obtain ⟨N, rfl⟩ : ∃ N', N = N' + 1 := ⟨N - 1, by omega⟩
      obtain ⟨hc1, hc2⟩ := q_ws_ch ⟨w, hw⟩ ⟨i, by omega⟩ (show i < (q_ws w).length by omega)
      dsimp only at hc1 hc2
      have hch : ∀ g', zF_sch [.inr (.inl (6, w, 0)), .inl (nI i)] g' = some (.inl (some (.inl (nI ((q_ws w).getD i 0)))), g') := fun g' => by
        show (if w < 8 then (if z_inb (nI i) (zLen.getD w 0) then (some (Sum.inl (some (Sum.inl (zCh w (nI i)))), g') : Option zRR) else none) else none) = _
        rw [if_pos hw, hlen, if_pos (q_inb' (show i < (q_ws w).length by omega) (by omega)), hc1]
      have hd : (q_ws w).drop i = (q_ws w).getD i 0 :: (q_ws w).drop (i + 1) := by
        rw [List.drop_eq_getElem_cons (show i < (q_ws w).length by omega), List.getD_eq_getElem?_getD, List.getElem?_eq_getElem (show i < (q_ws w).length by omega)]
        rfl
      have e := q_bv_eq hB (i := p + i) hc2
      rw [zu_X1_takeWord_2, hl, q_bI, if_neg (nI_ge (by omega) (by omega)), q_O_get, q_x3, nI_add, q_xbyte h (by omega), q_bI, hch, q_bI, nI_1, hd, q_wd]
      cases ht : q_chr B n (p + i) ((q_ws w).getD i 0) with
      | true =>
        rw [if_pos (e.mpr ht), Bool.true_and, show p + i + 1 = p + (i + 1) by omega]
        exact ih (i + 1) N (by omega) (by omega)
      | false =>
        rw [if_neg (fun hc => by rw [e.mp hc] at ht; cases ht), q_00]
        rfl
  have := key (q_ws w).length 0 99999 (by omega) (by omega)
  rw [List.drop_zero, Nat.add_zero] at this
  exact ((ze_X1_takeWord w hw _).trans (zu_X1_takeWord_0 99999 w _)).trans this
theorem q_layv {k v : Nat} (hk : k < 16) (hv : v < 2 ^ 27) : nI k ||| (nI v <<< ((4 : Int32) &&& 31)) = nI (k + 16 * v) := by
  rw [pk_shlN ((4 : Int32) &&& 31) 4 (by decide) (by omega), show v * 2 ^ 4 = 2 ^ 4 * v by omega, fa_or, Nat.or_comm, ← fa_or, fa_or_sum v (show k < 2 ^ 4 by omega), show 2 ^ 4 * v + k = k + 16 * v by omega]
theorem q_xlay1 {k v : Nat} (hk : k < 16) (hv : v < 2 ^ 27) (hu : u < 400) : zF_X1_lay [.inr (.inl (1, 0, 0)), .inl (nI k), .inl (nI v)] (q_O g 1 0 (q_x r p u s f)) = some (.inl (some (.inl 1)), q_O g 1 0 (q_x r p (u + 1) s (upd f u (nI (k + 16 * v))))) := by
  rw [(ze_X1_lay (nI k) (nI v) _).trans (zu_X1_lay_0 99999 (nI k) (nI v) _), q_O_get, q_x4, if_pos (show nI u < (400 : Int32) from nI_lt (b := 400) hu (by decide)), if_pos (q_inb' hu (by decide)), q_11, nI_clamp (by omega), q_layv hk hv, nI_1]
  simp only [q_gI, q_gA, q_O_get, q_O_O, q_xr]
  rw [q_x4s]
end Rd
