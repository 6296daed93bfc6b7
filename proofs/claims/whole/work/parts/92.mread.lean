/-! ===== pure part: the reference reads: small steps ===== -/
def q_m (r : zLS) (p b c s w o : Int32) (fc fn : Nat → Int32) : zLS := (upd (upd (upd (upd (upd (upd r.1 3 p) 4 b) 5 c) 6 s) 7 w) 8 o, va_up (va_up r.2 10 fc) 11 fn)
def q_rdM (B : Nat → Nat) (n : Nat) (r : zLS) : Prop := n ≤ 400 ∧ (∀ i, i < n → B i < 256 ∧ r.2 9 i = nI (B i)) ∧ r.1 2 = nI n
def q_hv (B : Nat → Nat) (n i : Nat) : Int32 := if i < n then nI (B i) else 0
def q_lrw (B : Nat → Nat) (n : Nat) : Nat → Nat → List Nat
  | 0, _ => []
  | m + 1, p => if q_ltr B n p then B p :: q_lrw B n m (p + 1) else []
def q_cr : List Nat → Nat
  | [] => 0
  | x :: r => q_cr r * 32 + (x - 96)
def q_cv (l : List Nat) : Int64 := if l.length ≤ 7 then lN (q_cr l) else 0
def q_lt (l : List Nat) : Prop := ∀ x ∈ l, 97 ≤ x ∧ x ≤ 122
theorem q_lNb (v : Nat) : (lN v).toBitVec = BitVec.ofNat 64 v := rfl
theorem q_lNj {a b : Nat} (ha : a < 2 ^ 64) (hb : b < 2 ^ 64) : lN a = lN b ↔ a = b := by
  refine ⟨fun h => ?_, fun h => by rw [h]⟩
  have := congrArg (fun x : Int64 => x.toBitVec.toNat) h
  simp only [q_lNb, BitVec.toNat_ofNat] at this
  rwa [Nat.mod_eq_of_lt ha, Nat.mod_eq_of_lt hb] at this
theorem q_shl5 (v : Nat) : lN v <<< ((5 : Int32).toInt64 &&& 63) = lN (v * 32) := by
  rw [show ((5 : Int32).toInt64 &&& 63) = (5 : Int64) by decide]
  apply Int64.toBitVec_inj.mp
  rw [Int64.toBitVec_shiftLeft, q_lNb, q_lNb, show ((5 : Int64).toBitVec.smod 64) = BitVec.ofNat 64 5 by decide]
  apply BitVec.eq_of_toNat_eq
  rw [BitVec.shiftLeft_eq', BitVec.toNat_shiftLeft, BitVec.toNat_ofNat, BitVec.toNat_ofNat, BitVec.toNat_ofNat, Nat.mod_eq_of_lt (show 5 < 2 ^ 64 by decide), Nat.shiftLeft_eq, Nat.mul_mod, Nat.mod_mod, ← Nat.mul_mod]
theorem q_cr_lt : ∀ (l : List Nat), q_lt l → q_cr l < 32 ^ l.length
  | [], _ => by simp [q_cr]
  | x :: r, h => by
    have h1 := q_cr_lt r (fun y hy => h y (List.mem_cons_of_mem _ hy))
    have h2 := h x (List.mem_cons_self ..)
    rw [q_cr, List.length_cons, Nat.pow_succ]
    omega
theorem q_cr_inj : ∀ (l l' : List Nat), q_lt l → q_lt l' → q_cr l = q_cr l' → l = l'
  | [], [], _, _, _ => rfl
  | [], y :: r, _, h, e => by
    have := h y (List.mem_cons_self ..)
    rw [q_cr, q_cr] at e
    omega
  | x :: r, [], h, _, e => by
    have := h x (List.mem_cons_self ..)
    rw [q_cr, q_cr] at e
    omega
  | x :: r, y :: t, h, h', e => by
    have h1 := h x (List.mem_cons_self ..)
    have h2 := h' y (List.mem_cons_self ..)
    rw [q_cr, q_cr] at e
    have e1 : q_cr r = q_cr t := by omega
    have e2 : x = y := by omega
    rw [e2, q_cr_inj r t (fun y hy => h y (List.mem_cons_of_mem _ hy)) (fun y hy => h' y (List.mem_cons_of_mem _ hy)) e1]
theorem q_cv_eq {l w : List Nat} (hl : q_lt l) (hw : q_lt w) (h7 : w.length ≤ 7) (h0 : w ≠ []) : q_cv l = lN (q_cr w) ↔ l = w := by
  have b1 := q_cr_lt w hw
  have b7 : 32 ^ w.length ≤ 32 ^ 7 := Nat.pow_le_pow_right (by decide) h7
  unfold q_cv
  by_cases c : l.length ≤ 7
  · have b2 := q_cr_lt l hl
    have b8 : 32 ^ l.length ≤ 32 ^ 7 := Nat.pow_le_pow_right (by decide) c
    rw [if_pos c, q_lNj (by omega) (by omega)]
    exact ⟨q_cr_inj l w hl hw, fun h => by rw [h]⟩
  · rw [if_neg c]
    refine ⟨fun h => ?_, fun h => absurd (h ▸ h7) c⟩
    have h1 := (q_lNj (a := 0) (by decide) (by omega)).mp (show lN 0 = lN (q_cr w) from h)
    exact absurd (q_cr_inj [] w (fun _ hx => by cases hx) hw (by rw [q_cr]; exact h1)).symm h0
section Md
variable {B : Nat → Nat} {n : Nat} {g : zSG} {r : zLS} {p b c s w o : Int32} {fc fn : Nat → Int32}
theorem q_lw_lt : ∀ (m p : Nat), q_lt (q_lrw B n m p)
  | 0, p => fun _ hx => by cases hx
  | m + 1, p => by
    rw [q_lrw]
    by_cases h : q_ltr B n p = true
    · rw [if_pos h]
      intro x hx
      rcases List.mem_cons.mp hx with e | e
      · unfold q_ltr at h
        simp only [Bool.and_eq_true, decide_eq_true_eq] at h
        rw [e]
        exact h.2
      · exact q_lw_lt m (p + 1) x e
    · rw [if_neg h]
      exact fun _ hx => by cases hx
theorem q_lw_wd : ∀ (w : List Nat) (m p : Nat), q_lt w → n ≤ p + m → (q_wd B n w p = true ↔ q_lrw B n m p = w)
  | [], 0, p, _, hm => by
    rw [q_wd, q_lrw]
    have : ¬ p < n := by omega
    simp [q_ltr, this]
  | [], m + 1, p, _, hm => by
    rw [q_wd, q_lrw]
    cases q_ltr B n p <;> simp
  | x :: t, 0, p, _, hm => by
    rw [q_wd, q_lrw]
    have : ¬ p < n := by omega
    simp [q_chr, this]
  | x :: t, m + 1, p, hw, hm => by
    have ih := q_lw_wd t m (p + 1) (fun y hy => hw y (List.mem_cons_of_mem _ hy)) (by omega)
    have hx := hw x (List.mem_cons_self ..)
    rw [q_wd, q_lrw]
    by_cases h : q_ltr B n p = true
    · rw [if_pos h, Bool.and_eq_true, ih, List.cons.injEq]
      unfold q_ltr at h
      simp only [Bool.and_eq_true, decide_eq_true_eq] at h
      unfold q_chr
      simp only [Bool.and_eq_true, decide_eq_true_eq]
      exact ⟨fun k => ⟨k.1.2, k.2⟩, fun k => ⟨⟨h.1, k.1⟩, k.2⟩⟩
    · rw [if_neg h]
      refine ⟨fun k => ?_, fun k => by cases k⟩
      rw [Bool.and_eq_true] at k
      have k1 := q_chr_lt k.1
      refine absurd ?_ h
      unfold q_ltr
      simp only [Bool.and_eq_true, decide_eq_true_eq]
      exact ⟨k1.1, by omega, by omega⟩
theorem q_m2 : (q_m r p b c s w o fc fn).1 2 = r.1 2 := rfl
theorem q_m3 : (q_m r p b c s w o fc fn).1 3 = p := rfl
theorem q_m4 : (q_m r p b c s w o fc fn).1 4 = b := rfl
theorem q_m5 : (q_m r p b c s w o fc fn).1 5 = c := rfl
theorem q_m6 : (q_m r p b c s w o fc fn).1 6 = s := rfl
theorem q_m7 : (q_m r p b c s w o fc fn).1 7 = w := rfl
theorem q_m8 : (q_m r p b c s w o fc fn).1 8 = o := rfl
theorem q_m9r : (q_m r p b c s w o fc fn).2 9 = r.2 9 := rfl
theorem q_m10r : (q_m r p b c s w o fc fn).2 10 = fc := rfl
theorem q_m11r : (q_m r p b c s w o fc fn).2 11 = fn := rfl
theorem q_m3s (v : Int32) : (upd (q_m r p b c s w o fc fn).1 3 v, (q_m r p b c s w o fc fn).2) = q_m r v b c s w o fc fn := by
  refine Prod.ext (funext fun k => ?_) rfl
  by_cases h : k = 3 <;> simp [q_m, upd, h]
theorem q_m4s (v : Int32) : (upd (q_m r p b c s w o fc fn).1 4 v, (q_m r p b c s w o fc fn).2) = q_m r p v c s w o fc fn := by
  refine Prod.ext (funext fun k => ?_) rfl
  by_cases h : k = 4 <;> simp [q_m, upd, h]
theorem q_m6s (v : Int32) : (upd (q_m r p b c s w o fc fn).1 6 v, (q_m r p b c s w o fc fn).2) = q_m r p b c v w o fc fn := by
  refine Prod.ext (funext fun k => ?_) rfl
  by_cases h : k = 6 <;> simp [q_m, upd, h]
theorem q_m7s (v : Int32) : (upd (q_m r p b c s w o fc fn).1 7 v, (q_m r p b c s w o fc fn).2) = q_m r p b c s v o fc fn := by
  refine Prod.ext (funext fun k => ?_) rfl
  by_cases h : k = 7 <;> simp [q_m, upd, h]
theorem q_m8s (v : Int32) : (upd (q_m r p b c s w o fc fn).1 8 v, (q_m r p b c s w o fc fn).2) = q_m r p b c s w v fc fn := by
  refine Prod.ext (funext fun k => ?_) rfl
  by_cases h : k = 8 <;> simp [q_m, upd, h]
theorem q_m5s (v : Int32) (x y : Nat → Int32) : (upd (q_m r p b c s w o fc fn).1 5 v, va_up (va_up (q_m r p b c s w o fc fn).2 10 x) 11 y) = q_m r p b v s w o x y := by
  refine Prod.ext (funext fun k => ?_) (funext fun k => ?_)
  · by_cases h : k = 5 <;> simp [q_m, upd, h]
  · by_cases h : k = 11
    · simp [q_m, va_up, h]
    · by_cases h2 : k = 10 <;> simp [q_m, va_up, h, h2]
theorem q_m11s (y : Nat → Int32) : ((q_m r p b c s w o fc fn).1, va_up (q_m r p b c s w o fc fn).2 11 y) = q_m r p b c s w o fc y := by
  refine Prod.ext rfl (funext fun k => ?_)
  by_cases h : k = 11 <;> simp [q_m, va_up, h]
theorem q_mfine1 : zF_X5_fine [.inr (.inl (3, 0, 0))] (q_O g 3 0 (q_m r p (-1) c s w o fc fn)) = some (.inl (some (.inl 1)), q_O g 3 0 (q_m r p (-1) c s w o fc fn)) := by
  rw [(ze_X5_fine _).trans (zu_X5_fine_0 99999 _), q_O_get, q_m4, if_pos rfl, q_11]
theorem q_mfine0 (hb : ¬ b = -1) : zF_X5_fine [.inr (.inl (3, 0, 0))] (q_O g 3 0 (q_m r p b c s w o fc fn)) = some (.inl (some (.inl 0)), q_O g 3 0 (q_m r p b c s w o fc fn)) := by
  rw [(ze_X5_fine _).trans (zu_X5_fine_0 99999 _), q_O_get, q_m4, if_neg hb, q_00]
theorem q_mwrong (v : Int32) : zF_X5_wrong [.inr (.inl (3, 0, 0)), .inl v] (q_O g 3 0 (q_m r p (-1) c s w o fc fn)) = some (.inl none, q_O g 3 0 (q_m r p v c s w o fc fn)) := by
  rw [(ze_X5_wrong v _).trans (zu_X5_wrong_0 99999 v _), q_O_get, q_m4, if_pos rfl, q_gI, q_O_get, q_O_O, q_m4s]
theorem q_hv_eq (hB : ∀ i, i < n → B i < 256) {i c : Nat} (hc : c < 256) (h0 : 0 < c) : q_hv B n i = nI c ↔ q_chr B n i c = true := by
  unfold q_hv q_chr
  by_cases h : i < n
  · have := hB i h
    rw [if_pos h, nI_eq (by omega) (by omega)]
    simp [h]
  · rw [if_neg h]
    simp only [h, decide_false, Bool.false_and, Bool.false_eq_true, iff_false]
    intro hc2
    have := (nI_eq (a := 0) (b := c) (by omega) (by omega)).mp hc2
    omega
theorem q_mdig (hB : ∀ i, i < n → B i < 256) (i : Nat) (g' : zSG) : zF_X5_isDigit [.inl (q_hv B n i)] g' = some (.inl (some (.inl (if q_dgt B n i then 1 else 0))), g') := by
  rw [(ze_X5_isDigit _ g').trans (zu_X5_isDigit_0 99999 _ g')]
  unfold q_hv q_dgt
  by_cases h : i < n
  · have := hB i h
    rw [if_pos h]
    by_cases c1 : B i < 48
    · rw [if_pos (show nI (B i) < (48 : Int32) from nI_lt (b := 48) c1 (by decide)), q_00]
      have : ¬ 48 ≤ B i := by omega
      simp [this]
    · rw [if_neg (show ¬ nI (B i) < (48 : Int32) from nI_nlt (b := 48) (by omega) (by omega))]
      by_cases c2 : 57 < B i
      · rw [if_pos (show (57 : Int32) < nI (B i) from nI_lt (a := 57) c2 (by omega)), q_00]
        have : ¬ B i ≤ 57 := by omega
        simp [this]
      · rw [if_neg (show ¬ (57 : Int32) < nI (B i) from nI_nlt (a := 57) (by omega) (by decide)), q_11]
        have h1 : 48 ≤ B i := by omega
        have h2 : B i ≤ 57 := by omega
        simp [h, h1, h2]
  · rw [if_neg h, if_pos (by decide), q_00]
    simp [h]
theorem q_msml (hB : ∀ i, i < n → B i < 256) (i : Nat) (g' : zSG) : zF_X5_isSmall [.inl (q_hv B n i)] g' = some (.inl (some (.inl (if q_ltr B n i then 1 else 0))), g') := by
  rw [(ze_X5_isSmall _ g').trans (zu_X5_isSmall_0 99999 _ g')]
  unfold q_hv q_ltr
  by_cases h : i < n
  · have := hB i h
    rw [if_pos h]
    by_cases c1 : B i < 97
    · rw [if_pos (show nI (B i) < (97 : Int32) from nI_lt (b := 97) c1 (by decide)), q_00]
      have : ¬ 97 ≤ B i := by omega
      simp [this]
    · rw [if_neg (show ¬ nI (B i) < (97 : Int32) from nI_nlt (b := 97) (by omega) (by omega))]
      by_cases c2 : 122 < B i
      · rw [if_pos (show (122 : Int32) < nI (B i) from nI_lt (a := 122) c2 (by omega)), q_00]
        have : ¬ B i ≤ 122 := by omega
        simp [this]
      · rw [if_neg (show ¬ (122 : Int32) < nI (B i) from nI_nlt (a := 122) (by omega) (by decide)), q_11]
        have h1 : 97 ≤ B i := by omega
        have h2 : B i ≤ 122 := by omega
        simp [h, h1, h2]
  · rw [if_neg h, if_pos (by decide), q_00]
    simp [h]
theorem q_mhere (h : q_rdM B n r) {p : Nat} (hp : p ≤ n) : zF_X5_here [.inr (.inl (3, 0, 0))] (q_O g 3 0 (q_m r (nI p) b c s w o fc fn)) = some (.inl (some (.inl (q_hv B n (q_skp B n p)))), q_O g 3 0 (q_m r (nI (q_skp B n p)) b c s w o fc fn)) := by
  obtain ⟨hn, hB, h2⟩ := h
  have key : ∀ (m p N : Nat), p + m = n → m < N → z_run zM_X5_here zc_X5_here zk_X5_here N 0 [(0, .inr (.inl (3, 0, 0)))] (q_O g 3 0 (q_m r (nI p) b c s w o fc fn)) (0, 0) = some (.inl (some (.inl (q_hv B n (q_sp B n m p)))), q_O g 3 0 (q_m r (nI (q_sp B n m p)) b c s w o fc fn)) := by
    intro m
    induction m with
    | zero =>
      intro p N hp hN
      obtain ⟨N, rfl⟩ : ∃ N', N = N' + 1 := ⟨N - 1, by omega⟩
      rw [zu_X5_here_0, q_O_get, q_m2, q_m3, h2, if_pos (nI_le (by omega) (by omega)), if_pos (nI_le (by omega) (by omega)), q_sp]
      unfold q_hv
      rw [if_neg (by omega)]
    | succ m ih =>
      intro p N hp hN
      obtain ⟨N, rfl⟩ : ∃ N', N = N' + 1 := ⟨N - 1, by omega⟩
      have hb := hB p (by omega)
      have hi := q_inb' (show p < 400 by omega) (by decide)
      rw [zu_X5_here_0, q_O_get, q_m2, q_m3, h2, if_neg (nI_ge (by omega) (by omega)), if_pos hi, if_neg (nI_ge (by omega) (by omega)), if_pos hi, nI_clamp (by omega), q_m9r, hb.2, nI_1, q_sp]
      by_cases c : B p = 32
      · rw [if_pos (show nI (B p) = (32 : Int32) by rw [c]; rfl), if_pos ⟨by omega, c⟩, q_gI, q_O_get, q_O_O, q_m3s]
        exact ih (p + 1) N (by omega) (by omega)
      · rw [if_neg (show ¬ nI (B p) = (32 : Int32) from fun hc => c ((nI_eq (b := 32) (by omega) (by decide)).mp hc)), if_neg (fun hc => c hc.2)]
        unfold q_hv
        rw [if_pos (by omega)]
  exact (ze_X5_here _).trans (key (n - p) p 100000 (by omega) (by omega))
theorem q_mpass (h : q_rdM B n r) {p : Nat} (hp : p ≤ n) : zF_X5_pass [.inr (.inl (3, 0, 0))] (q_O g 3 0 (q_m r (nI p) b c s w o fc fn)) = some (.inl none, q_O g 3 0 (q_m r (nI (p + (q_lrw B n (n - p) p).length)) b c s w o fc fn)) := by
  obtain ⟨hn, hB, h2⟩ := h
  have key : ∀ (m p N : Nat), p + m = n → m < N → z_run zM_X5_pass zc_X5_pass zk_X5_pass N 0 [(0, .inr (.inl (3, 0, 0)))] (q_O g 3 0 (q_m r (nI p) b c s w o fc fn)) (0, 0) = some (.inl none, q_O g 3 0 (q_m r (nI (p + (q_lrw B n m p).length)) b c s w o fc fn)) := by
    intro m
    induction m with
    | zero =>
      intro p N hp hN
      obtain ⟨N, rfl⟩ : ∃ N', N = N' + 1 := ⟨N - 1, by omega⟩
      rw [zu_X5_pass_0, q_O_get, q_m2, q_m3, h2, if_pos (nI_le (by omega) (by omega)), q_lrw]
      rfl
    | succ m ih =>
      intro p N hp hN
      obtain ⟨N, rfl⟩ : ∃ N', N = N' + 1 := ⟨N - 1, by omega⟩
      have hb := hB p (by omega)
      have hs := q_msml (n := n) (fun i hi => (hB i hi).1) p (q_O g 3 0 (q_m r (nI p) b c s w o fc fn))
      unfold q_hv at hs
      rw [if_pos (by omega)] at hs
      rw [zu_X5_pass_0, q_O_get, q_m2, q_m3, h2, if_neg (nI_ge (by omega) (by omega)), if_pos (q_inb' (show p < 400 by omega) (by decide)), nI_clamp (by omega), q_m9r, hb.2, hs, q_bI, q_lrw]
      cases hl : q_ltr B n p with
      | true =>
        rw [if_neg (by decide), if_pos rfl, q_gI, q_O_get, q_O_O, q_m3, nI_1, q_m3s, ih (p + 1) N (by omega) (by omega), List.length_cons, show p + 1 + (q_lrw B n m (p + 1)).length = p + ((q_lrw B n m (p + 1)).length + 1) by omega]
      | false =>
        rw [if_pos (by decide), if_neg (by decide)]
        rfl
  exact (ze_X5_pass _).trans (key (n - p) p 100000 (by omega) (by omega))
theorem q_mword (h : q_rdM B n r) {p : Nat} (hp : p ≤ n) : zF_X5_word [.inr (.inl (3, 0, 0))] (q_O g 3 0 (q_m r (nI p) b c s w o fc fn)) = some (.inl (some (.inr (.inr (q_cv (q_lrw B n (n - q_skp B n p) (q_skp B n p)).reverse)))), q_O g 3 0 (q_m r (nI (q_skp B n p)) b c s w o fc fn)) := by
  have hh := q_mhere (g := g) (b := b) (c := c) (s := s) (w := w) (o := o) (fc := fc) (fn := fn) h hp
  have hqn := q_skp_le (B := B) hp
  obtain ⟨hn, hB, h2⟩ := h
  rw [(ze_X5_word _).trans (zu_X5_word_0 99999 _), hh, q_bI, q_O_get, q_m3]
  have key : ∀ (m k N : Nat) (acc : List Nat), k + m = n → m < N → acc.length + m ≤ 400 → q_lt acc → z_run zM_X5_word zc_X5_word zk_X5_word N 15 [(0, .inr (.inl (3, 0, 0))), (1, .inr (.inr (q_cv acc))), (3, .inl (nI acc.length)), (4, .inl (nI k))] (q_O g 3 0 (q_m r (nI (q_skp B n p)) b c s w o fc fn)) (0, 0) = some (.inl (some (.inr (.inr (q_cv ((q_lrw B n m k).reverse ++ acc))))), q_O g 3 0 (q_m r (nI (q_skp B n p)) b c s w o fc fn)) := by
    have fin : ∀ (acc : List Nat) (g' : zSG), acc.length ≤ 400 → (if nI acc.length ≤ (7 : Int32) then (some (.inl (some (.inr (.inr (q_cv acc)))), g') : Option zRR) else some (.inl (some (.inr (.inr (0 : Int64)))), g')) = some (.inl (some (.inr (.inr (q_cv acc)))), g') := by
      intro acc g' ha
      by_cases c7 : acc.length ≤ 7
      · rw [if_pos (show nI acc.length ≤ (7 : Int32) from nI_le (b := 7) c7 (by decide))]
      · rw [if_neg (show ¬ nI acc.length ≤ (7 : Int32) from nI_ge (a := 7) (by omega) (by omega))]
        unfold q_cv
        rw [if_neg c7]
    intro m
    induction m with
    | zero =>
      intro k N acc hk hN ha hl
      obtain ⟨N, rfl⟩ : ∃ N', N = N' + 1 := ⟨N - 1, by omega⟩
      rw [zu_X5_word_15, q_O_get, q_m2, h2, if_pos (nI_le (by omega) (by omega)), fin acc _ (by omega), q_lrw]
      rfl
    | succ m ih =>
      intro k N acc hk hN ha hl
      obtain ⟨N, rfl⟩ : ∃ N', N = N' + 1 := ⟨N - 1, by omega⟩
      have hb := hB k (by omega)
      have hs := q_msml (n := n) (fun i hi => (hB i hi).1) k (q_O g 3 0 (q_m r (nI (q_skp B n p)) b c s w o fc fn))
      unfold q_hv at hs
      rw [if_pos (by omega)] at hs
      have hi := q_inb' (show k < 400 by omega) (by decide)
      rw [zu_X5_word_15, q_O_get, q_m2, h2, if_neg (nI_ge (by omega) (by omega)), if_pos hi, nI_clamp (by omega), q_m9r, hb.2, hs, q_bI, q_lrw]
      cases hlt : q_ltr B n k with
      | true =>
        have hlk : 97 ≤ B k ∧ B k ≤ 122 := by
          unfold q_ltr at hlt
          simp only [Bool.and_eq_true, decide_eq_true_eq] at hlt
          exact hlt.2
        have hl' : q_lt (B k :: acc) := fun x hx => (List.mem_cons.mp hx).elim (fun e => e ▸ hlk) (hl x)
        have hih := ih (k + 1) N (B k :: acc) (by omega) (by omega) (by rw [List.length_cons]; omega) hl'
        rw [List.length_cons] at hih
        rw [if_neg (by decide), if_pos rfl, List.reverse_cons, List.append_assoc, List.singleton_append, nI_1, nI_1]
        by_cases c7 : 7 ≤ acc.length
        · rw [if_pos (show (7 : Int32) ≤ nI acc.length from nI_le (a := 7) c7 (by omega))]
          rw [show q_cv (B k :: acc) = 0 from if_neg (by rw [List.length_cons]; omega)] at hih
          exact hih
        · have hcr := q_cr_lt acc hl
          have ev : (q_cv acc <<< ((5 : Int32).toInt64 &&& 63)) ||| (nI (B k) - (96 : Int32)).toInt64 = q_cv (B k :: acc) := by
            unfold q_cv
            rw [if_pos (by omega), if_pos (by rw [List.length_cons]; omega), q_shl5, show (96 : Int32) = nI 96 from rfl, pk_sub (by omega), nI_l (by omega), show q_cr acc * 32 = 2 ^ 5 * q_cr acc by omega, fb_or_sumL _ (show B k - 96 < 2 ^ 5 by omega), q_cr, show 2 ^ 5 * q_cr acc + (B k - 96) = q_cr acc * 32 + (B k - 96) by omega]
          rw [if_neg (show ¬ (7 : Int32) ≤ nI acc.length from nI_ge (b := 7) (by omega) (by decide)), if_pos hi, q_O_get, q_m9r, hb.2, ev]
          exact hih
      | false =>
        rw [if_pos (by decide), fin acc _ (by omega)]
        rfl
  have := key (n - q_skp B n p) (q_skp B n p) 99999 [] (by omega) (by omega) (by simp; omega) (fun _ hx => by cases hx)
  rw [List.append_nil] at this
  exact this
theorem q_memit {c : Nat} (hc : c < 500) (x1 x2 : Int32) : zF_X5_emit [.inr (.inl (3, 0, 0)), .inl x1, .inl x2] (q_O g 3 0 (q_m r p b (nI c) s w o fc fn)) = some (.inl none, q_O g 3 0 (q_m r p b (nI (c + 1)) s w o (upd fc c x1) (upd fn c x2))) := by
  have hi := q_inb' hc (by decide)
  rw [(ze_X5_emit x1 x2 _).trans (zu_X5_emit_0 99999 x1 x2 _), q_O_get, q_m5, if_pos hi, if_pos hi, nI_clamp (by omega), q_m10r, q_m11r, nI_1]
  simp only [q_gI, q_gA, q_O_get, q_O_O]
  rw [q_m5s]
theorem q_mneed (h : q_rdM B n r) {p k : Nat} (hp : p ≤ n) (hk : k < 256) (h0 : 0 < k) : zF_X5_need [.inr (.inl (3, 0, 0)), .inl (nI k)] (q_O g 3 0 (q_m r (nI p) (-1) c s w o fc fn)) = if q_chr B n (q_skp B n p) k then some (.inl none, q_O g 3 0 (q_m r (nI (q_skp B n p + 1)) (-1) c s w o fc fn)) else some (.inl none, q_O g 3 0 (q_m r (nI (q_skp B n p)) (nI (q_skp B n p)) c s w o fc fn)) := by
  have hqn := q_skp_le (B := B) hp
  have hn := h.1
  have e := q_hv_eq (fun i hi => (h.2.1 i hi).1) (i := q_skp B n p) hk h0
  rw [(ze_X5_need _ _).trans (zu_X5_need_0 99999 _ _), q_mfine1, q_bI, if_neg (by decide), q_mhere h hp, q_bI]
  by_cases hc : q_chr B n (q_skp B n p) k = true
  · rw [if_pos (e.mpr hc), if_pos hc, q_mfine1, q_bI, if_neg (by decide), q_gI, q_O_get, q_O_O, q_m3, nI_1, q_m3s]
  · rw [if_neg (fun hx => hc (e.mp hx)), if_neg hc, q_O_get, q_m3, q_mwrong, q_bV, q_mfine0 (q_nI_m1 (by omega)), q_bI, if_pos rfl]
theorem q_mneed0 (hb : ¬ b = -1) (k : Int32) : zF_X5_need [.inr (.inl (3, 0, 0)), .inl k] (q_O g 3 0 (q_m r p b c s w o fc fn)) = some (.inl none, q_O g 3 0 (q_m r p b c s w o fc fn)) := by
  rw [(ze_X5_need _ _).trans (zu_X5_need_0 99999 _ _), q_mfine0 hb, q_bI, if_pos rfl, q_mfine0 hb, q_bI, if_pos rfl]
end Md
