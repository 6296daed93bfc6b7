/-! ===== pure part: a script of the class is obeyed ===== -/
abbrev qIt : Type := Nat × List (Nat × Nat) × Nat
def q_lx : List qIt → Nat
  | [] => 0
  | it :: r => it.2.1.length + 1 + q_lx r
def q_spO (f : Nat → Int32) : Nat → List (Nat × Nat) → Prop
  | _, [] => True
  | p, o :: r => f p = nI (o.1 + 16 * o.2) ∧ q_spO f (p + 1) r
def q_spX (f : Nat → Int32) : Nat → Nat → List qIt → Prop
  | _, _, [] => True
  | i, p, it :: r => q_spO f p it.2.1 ∧ f (p + it.2.1.length) = nI (it.1 + 16 * (i + 32 * (if it.1 = 13 then p + it.2.1.length + 1 + q_lx (r.take it.2.2) else 0))) ∧ q_spX f (i + 1) (p + it.2.1.length + 1) r
def q_wfO (ops : List (Nat × Nat)) : Prop := ∀ o ∈ ops, o.1 ≤ 10 ∧ o.2 < 1000000
def q_wfI : List qIt → Prop
  | [] => True
  | it :: r => (it.1 = 11 ∨ it.1 = 12 ∨ it.1 = 13) ∧ q_wfO it.2.1 ∧ q_deps it.2.1 0 = some (if it.1 = 11 then 2 else 1) ∧ (it.1 = 13 → it.2.2 ≤ r.length) ∧ q_wfI r
/-- what a step does once its values are worked out -/
def q_act (kind : Nat) (st : List Int32) (E : zLS) : zLS := match kind, st with
  | 11, v :: w :: _ => (upd E.1 3 (E.1 3 ||| ((1 : Int32) <<< ((w &&& 7) &&& 31))), va_up E.2 0 (upd (E.2 0) (w &&& 7).toNatClampNeg v))
  | 12, v :: _ => if (E.1 4).toNatClampNeg < 8 then (upd E.1 4 (E.1 4 + 1), va_up E.2 1 (upd (E.2 1) (E.1 4).toNatClampNeg v)) else E
  | _, _ => E
theorem q_act_12 (v : Int32) (E : zLS) : q_act 12 [v] E = if (E.1 4).toNatClampNeg < 8 then (upd E.1 4 (E.1 4 + 1), va_up E.2 1 (upd (E.2 1) (E.1 4).toNatClampNeg v)) else E := rfl
def q_stp (i : Nat) (E : zLS) : zLS := (upd (upd E.1 6 (E.1 6 ||| nI (2 ^ i))) 5 (E.1 5 + 1), E.2)
def q_ex (kept : Nat → Int32) (a b : Int32) : Nat → List qIt → Nat → zLS → zLS
  | _, [], _, E => E
  | i, it :: r, 0, E => q_ex kept a b (i + 1) r (if it.1 = 13 ∧ (q_ops kept a b it.2.1 [] E).1.headD 0 = 0 then it.2.2 else 0) (q_act it.1 (q_ops kept a b it.2.1 [] E).1 (q_stp i (q_ops kept a b it.2.1 [] E).2))
  | i, _ :: r, k + 1, E => q_ex kept a b (i + 1) r k E
theorem q_ex_skip (kept : Nat → Int32) (a b : Int32) : ∀ (r : List qIt) (i k : Nat) (E : zLS), q_ex kept a b i r k E = q_ex kept a b (i + k) (r.drop k) 0 E
  | [], i, k, E => by rw [List.drop_nil]; unfold q_ex; rfl
  | it :: r, i, 0, E => rfl
  | it :: r, i, k + 1, E => by
    rw [q_ex, q_ex_skip kept a b r (i + 1) k E, List.drop_succ_cons, show i + 1 + k = i + (k + 1) by omega]
theorem q_spX_drop {f : Nat → Int32} : ∀ {r : List qIt} {i p : Nat} (k : Nat), k ≤ r.length → q_spX f i p r → q_spX f (i + k) (p + q_lx (r.take k)) (r.drop k)
  | r, i, p, 0, _, h => by simpa [q_lx] using h
  | [], i, p, k + 1, hk, _ => absurd hk (by simp)
  | it :: r, i, p, k + 1, hk, h => by
    have h1 := q_spX_drop k (by simpa using hk) h.2.2
    rw [show i + 1 + k = i + (k + 1) by omega] at h1
    simpa [q_lx, Nat.add_assoc] using h1
theorem q_wfI_drop : ∀ {r : List qIt} (k : Nat), q_wfI r → q_wfI (r.drop k)
  | r, 0, h => h
  | [], k + 1, h => h
  | it :: r, k + 1, h => q_wfI_drop (r := r) k h.2.2.2.2
theorem q_lx_drop : ∀ (r : List qIt) (k : Nat), q_lx (r.take k) + q_lx (r.drop k) = q_lx r
  | r, 0 => by simp [q_lx]
  | [], k + 1 => by simp [q_lx]
  | it :: r, k + 1 => by
    have h1 := q_lx_drop r k
    simp only [List.take_succ_cons, List.drop_succ_cons, q_lx]
    omega
theorem q_op_len {kept : Nat → Int32} {a b : Int32} {o : Nat × Nat} {st : List Int32} {E : zLS} {d : Nat} (h : q_dep o.1 st.length = some d) : (q_op kept a b o st E).1.length = d := by
  obtain ⟨k, v⟩ := o
  unfold q_dep at h
  dsimp only at h
  match k, h with
  | 0, h => simp at h; simp [q_op]; omega
  | 1, h => simp at h; simp [q_op]; omega
  | 2, h => simp at h; simp [q_op]; omega
  | 3, h => simp at h; simp [q_op]; omega
  | 4, h => cases st with
    | nil => simp at h
    | cons x r => simp at h; simp [q_op]; omega
  | 5, h => cases st with
    | nil => simp at h
    | cons x r => simp at h; simp [q_op]; omega
  | k + 6, h =>
    rcases st with _ | ⟨x, _ | ⟨w, r⟩⟩
    · simp at h
    · simp at h
    · simp at h; simp [q_op]; omega
theorem q_dec {k n : Nat} (hk : k < 16) (hn : n < 1000000) : nI (k + 16 * n) &&& 15 = nI k ∧ ((nI (k + 16 * n)).toUInt32 >>> ((4 : Int32).toUInt32 &&& Int32.toUInt32 31)).toInt32 = nI n := by
  constructor
  · rw [pk_andN (by omega) 4 (by decide)]
    congr 1
    omega
  · rw [pk_ushrN (by omega) 4 4 (by decide)]
    congr 1
    omega
theorem q_shl {i : Nat} (hi : i < 31) : (1 : Int32) <<< (nI i &&& 31) = nI (2 ^ i) := by
  have h : ∀ j : Fin 31, (1 : Int32) <<< (nI j.val &&& 31) = nI (2 ^ j.val) := by decide
  exact h ⟨i, hi⟩
theorem q_max (x y : Int32) (g : zSG) : zF_max [.inl x, .inl y] g = some (.inl (some (.inl (if x < y then y else x))), g) := rfl
theorem q_min (x y : Int32) (g : zSG) : zF_min [.inl x, .inl y] g = some (.inl (some (.inl (if y < x then y else x))), g) := rfl
theorem q_mx {a b : Nat} (h : a ≤ b) (hb : b < 2 ^ 31) : (if nI a < nI b then nI b else nI a) = nI b := by
  rcases Nat.lt_or_eq_of_le h with h1 | h1
  · rw [if_pos (nI_lt h1 hb)]
  · subst h1
    split <;> rfl
section Ob
variable {y : zLS} {ask kind : Nat} {a b : Int32} {E : zLS} {g : zSG} {r : Nat}
theorem q_xwork (hr : r < 4) (ha : ask < 30) {f an : Nat → Int32} {st : List Int32} {k v d : Nat} (hs : q_st f st) (hk : q_dep k st.length = some d) : ∃ f', zF_X2_work [.inr (.inl (4, r, 0)), .inl (nI k), .inl (nI v)] (q_O g 4 r (q_W y ask kind a b f an st.length E)) = some (.inl none, q_O g 4 r (q_W y ask kind a b f' an d (q_op (y.2 9) a b (k, v) st E).2)) ∧ q_st f' (q_op (y.2 9) a b (k, v) st E).1 := by
  rw [(ze_X2_work (nI k) (nI v) r hr _).trans (zu_X2_work_0 99999 (nI k) (nI v) r hr _)]
  unfold q_dep at hk
  match k, hk with
  | 0, hk =>
    simp at hk
    obtain ⟨h1, rfl⟩ := hk
    rw [if_pos (by decide), q_xpush hr _ h1]
    exact ⟨_, rfl, q_st_push hs⟩
  | 1, hk =>
    simp at hk
    obtain ⟨h1, rfl⟩ := hk
    rw [if_neg (by decide), if_pos (by decide), q_O_get, q_W_i16, q_xpush hr _ h1]
    exact ⟨_, rfl, q_st_push hs⟩
  | 2, hk =>
    simp at hk
    obtain ⟨h1, rfl⟩ := hk
    rw [if_neg (by decide), if_neg (by decide), if_pos (by decide), q_O_get, q_W_i17, q_xpush hr _ h1]
    exact ⟨_, rfl, q_st_push hs⟩
  | 3, hk =>
    simp at hk
    obtain ⟨h1, rfl⟩ := hk
    rw [if_neg (by decide), if_neg (by decide), if_neg (by decide), if_pos (by decide), q_gI, q_O_get, q_W_i13, q_O_O, q_W13, q_xpush hr _ h1]
    exact ⟨_, rfl, q_st_push hs⟩
  | 4, hk =>
    rcases st with _ | ⟨x, st⟩
    · simp at hk
    · simp at hk
      obtain ⟨h1, rfl⟩ := hk
      rw [if_neg (by decide), if_neg (by decide), if_neg (by decide), if_neg (by decide), if_pos (by decide), List.length_cons, q_xpop hr (by omega), q_bI, hs.1, q_xread hr _ ha, q_bI, q_xpush hr _ (by omega), q_bV]
      exact ⟨_, rfl, q_st_push hs.2⟩
  | 5, hk =>
    rcases st with _ | ⟨x, st⟩
    · simp at hk
    · simp at hk
      obtain ⟨h1, rfl⟩ := hk
      rw [if_neg (by decide), if_neg (by decide), if_neg (by decide), if_neg (by decide), if_neg (by decide), if_pos (by decide), q_gI, q_O_get, q_W_i8, q_O_O, q_W8, List.length_cons, q_xpop hr (by omega), q_bI, hs.1, if_pos (q_and15 x), q_O_get, q_W_9, q_xpush hr _ (by omega), q_bV]
      exact ⟨_, rfl, q_st_push hs.2⟩
  | k + 6, hk =>
    rcases st with _ | ⟨w, _ | ⟨x, st⟩⟩
    · simp at hk
    · simp at hk
    · simp at hk
      obtain ⟨h0, h1, rfl⟩ := hk
      have hi : (nI (k + 6)).toInt = ((k + 6 : Nat) : Int) := nI_toInt (by omega)
      rw [if_neg (by omega), if_neg (by omega), if_neg (by omega), if_neg (by omega), if_neg (by omega), if_neg (by omega), List.length_cons, List.length_cons, q_xpop hr (by omega), q_bI, q_xpop hr (by omega), q_bI, show f (st.length + 1) = w from hs.1, show f st.length = x from hs.2.1, q_xjoin (k + 6) (by omega) (by omega), q_bI, q_xpush hr _ (by omega), q_bV]
      exact ⟨_, rfl, q_st_push hs.2.2⟩
theorem q_xops (hr : r < 4) (ha : ask < 30) {t N : Nat} (ht : t < 8) (hN : (g 5 t).1 0 = nI N) (hN4 : N ≤ 400) {an : Nat → Int32} : ∀ (ops : List (Nat × Nat)) (p n d : Nat) (st : List Int32) (E : zLS) (f : Nat → Int32), q_spO ((g 5 t).2 0) p ops → q_wfO ops → q_deps ops st.length = some d → q_st f st → p + ops.length ≤ N →
    ∃ f', z_run zM_X2_obey zc_X2_obey zk_X2_obey (n + ops.length) 53 [(0, .inr (.inl (4, r, 0))), (1, .inr (.inl (5, t, 0))), (2, .inl (nI ask)), (3, .inl (nI kind)), (6, .inl (nI p))] (q_O g 4 r (q_W y ask kind a b f an st.length E)) (0, 0) = z_run zM_X2_obey zc_X2_obey zk_X2_obey n 53 [(0, .inr (.inl (4, r, 0))), (1, .inr (.inl (5, t, 0))), (2, .inl (nI ask)), (3, .inl (nI kind)), (6, .inl (nI (p + ops.length)))] (q_O g 4 r (q_W y ask kind a b f' an d (q_ops (y.2 9) a b ops st E).2)) (0, 0) ∧ q_st f' (q_ops (y.2 9) a b ops st E).1 ∧ (q_ops (y.2 9) a b ops st E).1.length = d
  | [], p, n, d, st, E, f, _, _, hd, hs, _ => by
    have e : st.length = d := Option.some.inj hd
    subst e
    exact ⟨f, rfl, hs, rfl⟩
  | o :: ops, p, n, d, st, E, f, hsp, hwf, hd, hs, hp => by
    obtain ⟨k, v⟩ := o
    obtain ⟨hk, hv⟩ := hwf (k, v) (List.mem_cons_self ..)
    dsimp only at hk hv
    simp only [List.length_cons] at hp
    cases hq : q_dep k st.length with
    | none => simp [q_deps, hq] at hd
    | some d1 =>
      have hd1 : q_deps ops d1 = some d := by simpa [q_deps, hq] using hd
      obtain ⟨f1, e1, s1⟩ := q_xwork (y := y) (ask := ask) (kind := kind) (a := a) (b := b) (E := E) (g := g) (an := an) (v := v) hr ha hs hq
      have hl := q_op_len (kept := y.2 9) (a := a) (b := b) (o := (k, v)) (E := E) hq
      obtain ⟨f2, e2, s2, l2⟩ := q_xops hr ha ht hN hN4 (an := an) ops (p + 1) n d (q_op (y.2 9) a b (k, v) st E).1 (q_op (y.2 9) a b (k, v) st E).2 f1 hsp.2 (fun o ho => hwf o (List.mem_cons_of_mem _ ho)) (by rw [hl]; exact hd1) s1 (by omega)
      refine ⟨f2, ?_, s2, l2⟩
      obtain ⟨c1, c2⟩ := q_dec (k := k) (n := v) (by omega) hv
      rw [show n + ((k, v) :: ops).length = (n + ops.length) + 1 from rfl, zu_X2_obey_53 _ _ _ _ r t hr]
      rw [if_pos ht, if_pos ht, q_O_c _ _ _ (show 5 ≠ 4 by decide), hN, nI_clamp (show N < 2 ^ 31 by omega), if_neg (show ¬ Int32.ofNat N ≤ nI p from nI_ge (by omega) (by omega)), if_pos ht, if_pos ht, if_pos (q_inb' (by omega) (by omega)), if_pos ht, if_pos ht, if_pos (q_inb' (by omega) (by omega)), nI_clamp (show p < 2 ^ 31 by omega), hsp.1, c1, c2, if_neg (show ¬ (11 : Int32) ≤ nI k from nI_ge (b := 11) (by omega) (by decide)), e1, q_bV, nI_1]
      rw [hl] at e2
      rw [show p + ((k, v) :: ops).length = p + 1 + ops.length by simp only [List.length_cons]; omega, e2]
      rfl
/-- the answer so far, and the other answers as they were -/
def q_anr (w : Nat → Int32) (ask : Nat) (an : Nat → Int32) (E : zLS) : Prop := ∃ m, m ≤ 8 ∧ E.1 4 = nI m ∧ (∀ j, j < m → an (ask * 8 + j) = E.2 1 j) ∧ ∀ i, (i < ask * 8 ∨ ask * 8 + 8 ≤ i) → an i = w i
theorem q_op_keep (kept : Nat → Int32) (a b : Int32) (o : Nat × Nat) (st : List Int32) (E : zLS) : (∀ k, 2 < k → (q_op kept a b o st E).2.1 k = E.1 k) ∧ (q_op kept a b o st E).2.2 = E.2 := by
  obtain ⟨k, v⟩ := o
  match k with
  | 0 => exact ⟨fun _ _ => rfl, rfl⟩
  | 1 => exact ⟨fun _ _ => rfl, rfl⟩
  | 2 => exact ⟨fun _ _ => rfl, rfl⟩
  | 3 => exact ⟨fun k hk => pk_un (by omega), rfl⟩
  | 4 =>
    cases st with
    | nil => exact ⟨fun _ _ => rfl, rfl⟩
    | cons x r => exact ⟨fun k hk => pk_un (by omega), rfl⟩
  | 5 =>
    cases st with
    | nil => exact ⟨fun _ _ => rfl, rfl⟩
    | cons x r => exact ⟨fun k hk => pk_un (by omega), rfl⟩
  | k + 6 =>
    rcases st with _ | ⟨x, _ | ⟨w, r⟩⟩
    · exact ⟨fun _ _ => rfl, rfl⟩
    · exact ⟨fun _ _ => rfl, rfl⟩
    · exact ⟨fun _ _ => rfl, rfl⟩
theorem q_ops_keep (kept : Nat → Int32) (a b : Int32) : ∀ (ops : List (Nat × Nat)) (st : List Int32) (E : zLS), (∀ k, 2 < k → (q_ops kept a b ops st E).2.1 k = E.1 k) ∧ (q_ops kept a b ops st E).2.2 = E.2
  | [], st, E => ⟨fun _ _ => rfl, rfl⟩
  | o :: r, st, E => by
    obtain ⟨h1, h2⟩ := q_op_keep kept a b o st E
    obtain ⟨h3, h4⟩ := q_ops_keep kept a b r (q_op kept a b o st E).1 (q_op kept a b o st E).2
    exact ⟨fun k hk => (h3 k hk).trans (h1 k hk), h4.trans h2⟩
theorem q_anr_ops {w an : Nat → Int32} (kept : Nat → Int32) (ops : List (Nat × Nat)) (st : List Int32) (h : q_anr w ask an E) : q_anr w ask an (q_ops kept a b ops st E).2 := by
  obtain ⟨m, h1, h2, h3, h4⟩ := h
  obtain ⟨k1, k2⟩ := q_ops_keep kept a b ops st E
  exact ⟨m, h1, (k1 4 (by decide)).trans h2, by rw [k2]; exact h3, h4⟩
theorem q_anr_stp {w an : Nat → Int32} (i : Nat) (h : q_anr w ask an E) : q_anr w ask an (q_stp i E) := h
def q_dn (w : zLS) (ask : Nat) : zLS := (w.1, va_up w.2 6 (upd (w.2 6) ask 1))
theorem q_xitems (hr : r < 4) (ha : ask < 30) (hkd : kind < 4) {t N : Nat} (ht : t < 8) (hN : (g 5 t).1 0 = nI N) (hN4 : N ≤ 400) : ∀ (m : Nat) (its : List qIt), its.length ≤ m → ∀ (i p n : Nat) (E : zLS) (f an : Nat → Int32), q_spX ((g 5 t).2 0) i p its → q_wfI its → i + its.length ≤ 30 → p + q_lx its = N → q_lx its < n → q_anr (y.2 1) ask an E →
    ∃ f' an', z_run zM_X2_obey zc_X2_obey zk_X2_obey n 53 [(0, .inr (.inl (4, r, 0))), (1, .inr (.inl (5, t, 0))), (2, .inl (nI ask)), (3, .inl (nI kind)), (6, .inl (nI p))] (q_O g 4 r (q_W y ask kind a b f an 0 E)) (0, 0) = some (.inl none, q_O g 4 r (q_dn (q_W y ask kind a b f' an' 0 (q_ex (y.2 9) a b i its 0 E)) ask)) ∧ q_anr (y.2 1) ask an' (q_ex (y.2 9) a b i its 0 E) := by
  intro m
  induction m with
  | zero =>
    intro its hm i p n E f an hsp hwf h30 hp hn han
    have e : its = [] := List.eq_nil_of_length_eq_zero (by omega)
    subst e
    obtain ⟨n, rfl⟩ : ∃ n', n = n' + 1 := ⟨n - 1, by omega⟩
    simp only [q_lx] at hp
    refine ⟨f, an, ?_, han⟩
    rw [zu_X2_obey_53 _ _ _ _ r t hr, if_pos ht, if_pos ht, q_O_c _ _ _ (show 5 ≠ 4 by decide), hN, nI_clamp (show N < 2 ^ 31 by omega), if_pos (show Int32.ofNat N ≤ nI p from nI_le (by omega) (by omega)), if_pos (q_inb' ha (by decide)), nI_clamp (show ask < 2 ^ 31 by omega)]
    simp only [q_gA, q_O_get, q_O_O]
    rfl
  | succ m ih =>
    intro its hm i p n E f an hsp hwf h30 hp hn han
    rcases its with _ | ⟨⟨kd, ops, body⟩, its⟩
    · obtain ⟨n, rfl⟩ : ∃ n', n = n' + 1 := ⟨n - 1, by omega⟩
      simp only [q_lx] at hp
      refine ⟨f, an, ?_, han⟩
      rw [zu_X2_obey_53 _ _ _ _ r t hr, if_pos ht, if_pos ht, q_O_c _ _ _ (show 5 ≠ 4 by decide), hN, nI_clamp (show N < 2 ^ 31 by omega), if_pos (show Int32.ofNat N ≤ nI p from nI_le (by omega) (by omega)), if_pos (q_inb' ha (by decide)), nI_clamp (show ask < 2 ^ 31 by omega)]
      simp only [q_gA, q_O_get, q_O_O]
      rfl
    · simp only [q_lx] at hp hn
      simp only [List.length_cons] at hm h30
      obtain ⟨hkk, hwo, hdp, hbd, hwr⟩ := hwf
      obtain ⟨sp1, sp2, sp3⟩ := hsp
      dsimp only at hkk hwo hdp hbd sp1 sp2 sp3
      obtain ⟨n, rfl⟩ : ∃ n', n = n' + 1 + ops.length := ⟨n - 1 - ops.length, by omega⟩
      obtain ⟨f1, e1, s1, l1⟩ := q_xops (y := y) (ask := ask) (kind := kind) (a := a) (b := b) (g := g) hr ha ht hN hN4 (an := an) ops p (n + 1) _ [] E f sp1 hwo hdp trivial (by omega)
      rw [show ([] : List Int32).length = 0 from rfl] at e1
      have htl := q_lx_drop its body
      have htb : (if kd = 13 then p + ops.length + 1 + q_lx (its.take body) else 0) ≤ 401 := by
        split <;> omega
      obtain ⟨c1, c2⟩ := q_dec (k := kd) (n := i + 32 * (if kd = 13 then p + ops.length + 1 + q_lx (its.take body) else 0)) (by omega) (by omega)
      have c3 : nI (i + 32 * (if kd = 13 then p + ops.length + 1 + q_lx (its.take body) else 0)) &&& 31 = nI i := by
        rw [pk_andN (by omega) 5 (by decide)]
        congr 1
        omega
      have c4 : ((nI (i + 32 * (if kd = 13 then p + ops.length + 1 + q_lx (its.take body) else 0))).toUInt32 >>> ((5 : Int32).toUInt32 &&& Int32.toUInt32 31)).toInt32 = nI (if kd = 13 then p + ops.length + 1 + q_lx (its.take body) else 0) := by
        rw [pk_ushrN (by omega) 5 5 (by decide)]
        congr 1
        omega
      have han1 := q_anr_stp i (q_anr_ops (a := a) (b := b) (y.2 9) ops [] han)
      rw [e1, zu_X2_obey_53 _ _ _ _ r t hr, if_pos ht, if_pos ht, q_O_c _ _ _ (show 5 ≠ 4 by decide), hN, nI_clamp (show N < 2 ^ 31 by omega), if_neg (show ¬ Int32.ofNat N ≤ nI (p + ops.length) from nI_ge (by omega) (by omega)), if_pos ht, if_pos ht, if_pos (q_inb' (by omega) (by omega)), if_pos ht, if_pos ht, if_pos (q_inb' (by omega) (by omega)), nI_clamp (show p + ops.length < 2 ^ 31 by omega), sp2, c1, c2, c3, if_pos (show (11 : Int32) ≤ nI kd from nI_le (a := 11) (by omega) (by omega)), if_pos (q_inb' hkd (by decide)), if_pos (q_inb' hkd (by decide)), if_pos (q_inb' ha (by decide)), if_pos (q_inb' ha (by decide)), nI_clamp (show ask < 2 ^ 31 by omega), nI_clamp (show kind < 2 ^ 31 by omega), q_shl (show i < 31 by omega)]
      simp only [q_gA, q_O_get, q_O_O, q_W_r5, q_W_r7]
      rw [q_W57]
      generalize hE1 : (q_ops (y.2 9) a b ops [] E).2 = E1 at *
      generalize hst : (q_ops (y.2 9) a b ops [] E).1 = st at *
      rw [show (upd (upd E1.1 6 (E1.1 6 ||| nI (2 ^ i))) 5 (E1.1 5 + 1), E1.2) = q_stp i E1 from rfl]
      rcases hkk with rfl | rfl | rfl
      · rcases st with _ | ⟨v, _ | ⟨w, _ | ⟨_, _⟩⟩⟩
        · simp at l1
        · simp at l1
        · rw [show (if (11 : Nat) = 11 then 2 else 1) = 1 + 1 from rfl, q_xpop hr (by decide), q_bI, if_neg (by decide), if_pos (show nI 11 = (11 : Int32) from rfl), show (1 : Nat) = 0 + 1 from rfl, q_xpop hr (by decide), q_bI, q_xwrite hr _ _ ha, q_bV, nI_1, show f1 1 = v from s1.1, show f1 0 = w from s1.2.1]
          obtain ⟨f2, an2, e2, a2⟩ := ih its (by omega) (i + 1) (p + ops.length + 1) n (q_act 11 [v, w] (q_stp i E1)) f1 an sp3 hwr (by omega) (by omega) (by omega) han1
          refine ⟨f2, an2, ?_, ?_⟩
          · rw [show (upd (q_stp i E1).1 3 ((q_stp i E1).1 3 ||| ((1 : Int32) <<< ((w &&& 7) &&& 31))), va_up (q_stp i E1).2 0 (upd ((q_stp i E1).2 0) (w &&& 7).toNatClampNeg v)) = q_act 11 [v, w] (q_stp i E1) from rfl, e2]
            simp [q_ex, hE1, hst]
          · simpa [q_ex, hE1, hst] using a2
        · simp at l1
      · rcases st with _ | ⟨v, _ | ⟨_, _⟩⟩
        · simp at l1
        · obtain ⟨m8, hm8, hm4, han2, han3⟩ := han1
          rw [show (if (12 : Nat) = 11 then 2 else 1) = 0 + 1 from rfl, q_xpop hr (by decide), q_bI, if_neg (by decide), if_neg (by decide), show f1 0 = v from s1.1, q_xanswer hr v ha m8 hm8 hm4, q_bV, nI_1]
          by_cases h8 : m8 < 8
          · rw [if_pos h8]
            have e3 : q_act 12 [v] (q_stp i E1) = (upd (q_stp i E1).1 4 (nI (m8 + 1)), va_up (q_stp i E1).2 1 (upd ((q_stp i E1).2 1) m8 v)) := by
              rw [q_act_12, hm4, nI_clamp (by omega), if_pos h8, nI_1]
            obtain ⟨f2, an2, e2, a2⟩ := ih its (by omega) (i + 1) (p + ops.length + 1) n (q_act 12 [v] (q_stp i E1)) f1 (upd an (ask * 8 + m8) v) sp3 hwr (by omega) (by omega) (by omega) (by
              rw [e3]
              refine ⟨m8 + 1, by omega, (show upd (q_stp i E1).1 4 (nI (m8 + 1)) 4 = nI (m8 + 1) from pk_us), fun j hj => ?_, fun i hi => ?_⟩
              · show upd an (ask * 8 + m8) v (ask * 8 + j) = upd ((q_stp i E1).2 1) m8 v j
                by_cases hj2 : j = m8
                · subst hj2
                  rw [pk_us, pk_us]
                · rw [pk_un (by omega), pk_un hj2]
                  exact han2 j (by omega)
              · rw [pk_un (by omega)]
                exact han3 i hi)
            refine ⟨f2, an2, ?_, ?_⟩
            · refine Eq.trans ?_ (e2.trans ?_)
              · rw [e3]
                rfl
              · simp [q_ex, hE1, hst]
            · simpa [q_ex, hE1, hst] using a2
          · rw [if_neg h8]
            have e3 : q_act 12 [v] (q_stp i E1) = q_stp i E1 := by
              rw [q_act_12, hm4, nI_clamp (by omega), if_neg h8]
            obtain ⟨f2, an2, e2, a2⟩ := ih its (by omega) (i + 1) (p + ops.length + 1) n (q_act 12 [v] (q_stp i E1)) f1 an sp3 hwr (by omega) (by omega) (by omega) (by rw [e3]; exact ⟨m8, hm8, hm4, han2, han3⟩)
            refine ⟨f2, an2, ?_, ?_⟩
            · refine Eq.trans ?_ (e2.trans ?_)
              · rw [e3]
              · simp [q_ex, hE1, hst]
            · simpa [q_ex, hE1, hst] using a2
        · simp at l1
      · rcases st with _ | ⟨v, _ | ⟨_, _⟩⟩
        · simp at l1
        · rw [show (if (13 : Nat) = 11 then 2 else 1) = 0 + 1 from rfl, q_xpop hr (by decide), q_bI, if_pos (show nI 13 = (13 : Int32) from rfl), show f1 0 = v from s1.1]
          rw [show (if (13 : Nat) = 13 then p + ops.length + 1 + q_lx (its.take body) else 0) = p + ops.length + 1 + q_lx (its.take body) from rfl] at c4
          by_cases hv : v = 0
          · obtain ⟨f2, an2, e2, a2⟩ := ih (its.drop body) (by rw [List.length_drop]; omega) (i + 1 + body) (p + ops.length + 1 + q_lx (its.take body)) n (q_stp i E1) f1 an (q_spX_drop body (hbd rfl) sp3) (q_wfI_drop body hwr) (by have := hbd rfl; rw [List.length_drop]; omega) (by omega) (by omega) han1
            have e4 : q_ex (y.2 9) a b i ((13, ops, body) :: its) 0 E = q_ex (y.2 9) a b (i + 1 + body) (its.drop body) 0 (q_stp i E1) := by
              rw [← q_ex_skip]
              simp [q_ex, hE1, hst, hv, q_act]
            rw [if_pos hv, show (if (13 : Nat) = 13 then p + ops.length + 1 + q_lx (its.take body) else 0) = p + ops.length + 1 + q_lx (its.take body) from rfl, c4, q_max, q_bI, nI_1, q_mx (by omega) (by omega), e4]
            exact ⟨f2, an2, e2, a2⟩
          · obtain ⟨f2, an2, e2, a2⟩ := ih its (by omega) (i + 1) (p + ops.length + 1) n (q_stp i E1) f1 an sp3 hwr (by omega) (by omega) (by omega) han1
            have e4 : q_ex (y.2 9) a b i ((13, ops, body) :: its) 0 E = q_ex (y.2 9) a b (i + 1) its 0 (q_stp i E1) := by
              simp [q_ex, hE1, hst, hv, q_act]
            rw [if_neg hv, nI_1, e4]
            exact ⟨f2, an2, e2, a2⟩
        · simp at l1
end Ob
