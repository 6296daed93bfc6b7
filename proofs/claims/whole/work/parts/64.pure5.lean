/-! ===== pure part: one ask, on the side of the program ===== -/
abbrev qP : Type := (Nat → Nat × Int32 × Int32 × Nat × Option Nat × Nat) × (Nat → List qIt) × (Nat → Int32) × (Nat → Int32)
abbrev qRS : Type := zLS × (Nat → Option zLS)
def q_kd (P : qP) (i : Nat) : Nat := (P.1 i).1
def q_fa (P : qP) (i : Nat) : Int32 := (P.1 i).2.1
def q_fb (P : qP) (i : Nat) : Int32 := (P.1 i).2.2.1
def q_tk (P : qP) (i : Nat) : Nat := (P.1 i).2.2.2.1
def q_by (P : qP) (i : Nat) : Option Nat := (P.1 i).2.2.2.2.1
def q_fd (P : qP) (i : Nat) : Nat := (P.1 i).2.2.2.2.2
def q_its (P : qP) (t : Nat) : List qIt := P.2.1 t
def q_kp (P : qP) : Nat → Int32 := P.2.2.1
def q_bg (P : qP) : Nat → Int32 := P.2.2.2
def q_cI : Option Nat → Int32
  | none => -1
  | some c => nI c
def q_z (f : Nat → Int32) (m : Nat) : Prop := ∀ k, m ≤ k → f k = 0
def q_wT (its : List qIt) : Prop := q_wfI its ∧ its.length ≤ 30 ∧ q_lx its ≤ 400 ∧ q_lm its ≤ 500
def q_wP (P : qP) (n : Nat) : Prop := n ≤ 30 ∧ (∀ i, i < n → q_kd P i < 4 ∧ q_tk P i ≤ 100000 ∧ q_fd P i < 8 ∧ ∀ c, q_by P i = some c → c < n) ∧ (∀ t, t < 8 → q_wT (q_its P t)) ∧ q_z (q_kp P) 16 ∧ q_z (q_bg P) 8
def q_E0 (l c m : Int32) (K : Nat → Int32) : zLS := (upd (upd (upd (fun _ => 0) 0 l) 1 c) 6 m, va_up (fun _ _ => 0) 0 K)
def q_arg (P : qP) (res : Nat → Option zLS) (i : Nat) : Int32 := match q_by P i with
  | none => q_fa P i
  | some c => match res c with
    | none => q_fa P i
    | some E => if q_fd P i < (E.1 4).toNatClampNeg then E.2 1 (q_fd P i) else q_fa P i
def q_doE (P : qP) (v : Nat) (S : qRS) (i : Nat) : zLS := q_ex (q_kp P) (q_arg P S.2 i) (q_fb P i) 0 (q_its P (v * 4 + q_kd P i)) 0 (q_E0 (S.1.1 0) (S.1.1 1) (S.1.1 (10 + q_kd P i)) (S.1.2 0))
def q_do (P : qP) (v : Nat) (S : qRS) (i : Nat) : qRS := ((upd (upd (upd S.1.1 0 ((q_doE P v S i).1 0)) 1 ((q_doE P v S i).1 1)) (10 + q_kd P i) ((q_doE P v S i).1 6), va_up S.1.2 0 ((q_doE P v S i).2 0)), va_up S.2 i (some (q_doE P v S i)))
/-! the book and the scripts -/
def q_bk (P : qP) (n : Nat) (w : zLS) : Prop := w.1 7 = nI n ∧ (∀ i, i < n → w.2 0 i = nI (q_kd P i) ∧ w.2 1 i = q_fa P i ∧ w.2 2 i = q_fb P i ∧ w.2 3 i = nI (q_tk P i) ∧ w.2 4 i = q_cI (q_by P i) ∧ w.2 5 i = nI (q_fd P i)) ∧ ∀ j, n ≤ j → j < 30 → w.2 5 j = 0
def q_sx1 (its : List qIt) (w : zLS) : Prop := w.1 0 = nI (q_lx its) ∧ w.1 1 = nI its.length ∧ q_spX (w.2 0) 0 0 its
def q_sx (P : qP) (w : Nat → zLS) : Prop := ∀ t, t < 8 → q_sx1 (q_its P t) (w t)
/-! a run -/
def q_rsX (y : zLS) (i : Nat) (E : zLS) : Prop := ∃ m, m ≤ 8 ∧ E.1 4 = nI m ∧ y.2 2 i = nI m ∧ (∀ j, j < m → y.2 1 (i * 8 + j) = E.2 1 j) ∧ y.2 3 i = E.1 2 ∧ y.2 4 i = E.1 3 ∧ y.2 5 i = E.1 5
def q_oX (y : zLS) (i : Nat) : Option zLS → Prop
  | none => y.2 6 i = 0
  | some E => y.2 6 i = 1 ∧ q_rsX y i E
def q_rx (P : qP) (S : qRS) (y : zLS) : Prop := (y.1 13 = S.1.1 0 ∧ y.1 8 = S.1.1 1 ∧ y.2 0 = S.1.2 0 ∧ y.2 9 = q_kp P) ∧ (∀ k, k < 4 → y.2 7 k = S.1.1 (10 + k)) ∧ ∀ i, i < 30 → q_oX y i (S.2 i)
def q_zx (y : zLS) : Prop := q_z (y.2 0) 8 ∧ q_z (y.2 9) 16 ∧ q_z (y.2 10) 8
def q_kx (y y' : zLS) : Prop := y'.1 12 = y.1 12 ∧ y'.2 10 = y.2 10
theorem q_z_up {f : Nat → Int32} {m k : Nat} {v : Int32} (h : q_z f m) (hk : k < m) : q_z (upd f k v) m := fun j hj => by rw [pk_un (by omega)]; exact h j hj
theorem q_and7_lt (x : Int32) : (x &&& 7).toNatClampNeg < 8 := by
  obtain ⟨j, hj, e⟩ := pk_andE x 3 (m := 7) (by decide)
  rw [e, nI_clamp (by omega)]
  exact hj
theorem q_act_z {kd : Nat} {st : List Int32} {E : zLS} (h : q_z (E.2 0) 8) : q_z ((q_act kd st E).2 0) 8 := by
  unfold q_act
  split
  · exact q_z_up h (q_and7_lt _)
  · split
    · exact h
    · exact h
  · exact h
theorem q_ex_z (kept : Nat → Int32) (a b : Int32) : ∀ (its : List qIt) (i k : Nat) (E : zLS), q_z (E.2 0) 8 → q_z ((q_ex kept a b i its k E).2 0) 8
  | [], i, k, E, h => by rw [q_ex]; exact h
  | it :: r, i, 0, E, h => by
    rw [q_ex]
    refine q_ex_z kept a b r _ _ _ (q_act_z ?_)
    show q_z ((q_ops kept a b it.2.1 [] E).2.2 0) 8
    rw [(q_ops_keep kept a b it.2.1 [] E).2]
    exact h
  | it :: r, i, k + 1, E, h => by
    rw [q_ex]
    exact q_ex_z kept a b r _ _ _ h
theorem q_nI_m1 {c : Nat} (h : c < 2 ^ 31) : ¬ nI c = -1 := by
  intro e
  have h1 := congrArg Int32.toInt e
  rw [nI_toInt h] at h1
  have h2 : (-1 : Int32).toInt = -1 := by decide
  omega
theorem q_W_start (y : zLS) (i kd : Nat) (a b : Int32) : (upd (upd (upd (upd y.1 15 (nI i)) 16 a) 17 b) 14 0, va_up (va_up (va_up (va_up y.2 2 (upd (y.2 2) i 0)) 3 (upd (y.2 3) i 0)) 4 (upd (y.2 4) i 0)) 5 (upd (y.2 5) i 0)) = q_W y i kd a b (y.2 11) (y.2 1) 0 (q_E0 (y.1 13) (y.1 8) (y.2 7 kd) (y.2 0)) := by
  refine Prod.ext (funext fun k => ?_) (funext fun k => ?_)
  · show upd (upd (upd (upd y.1 15 (nI i)) 16 a) 17 b) 14 0 k = upd (upd (upd (upd (upd (upd y.1 15 (nI i)) 16 a) 17 b) 8 (y.1 8)) 13 (y.1 13)) 14 0 k
    unfold upd
    by_cases h0 : k = 8
    · subst h0; rfl
    · by_cases h1 : k = 13
      · subst h1; rfl
      · simp [h0, h1]
  · show va_up (va_up (va_up (va_up y.2 2 (upd (y.2 2) i 0)) 3 (upd (y.2 3) i 0)) 4 (upd (y.2 4) i 0)) 5 (upd (y.2 5) i 0) k = va_up (va_up (va_up (va_up (va_up (va_up (va_up (va_up y.2 7 (upd (y.2 7) kd (y.2 7 kd))) 5 (upd (y.2 5) i 0)) 4 (upd (y.2 4) i 0)) 2 (upd (y.2 2) i 0)) 1 (y.2 1)) 0 (y.2 0)) 3 (upd (y.2 3) i 0)) 11 (y.2 11) k
    rw [fa_upd_same (f := y.2 7) (i := kd) rfl]
    unfold va_up
    by_cases h0 : k = 0
    · subst h0; rfl
    · by_cases h1 : k = 1
      · subst h1; rfl
      · by_cases h2 : k = 2
        · subst h2; rfl
        · by_cases h3 : k = 3
          · subst h3; rfl
          · by_cases h4 : k = 4
            · subst h4; rfl
            · by_cases h5 : k = 5
              · subst h5; rfl
              · by_cases h7 : k = 7
                · subst h7; rfl
                · by_cases h11 : k = 11
                  · subst h11; rfl
                  · simp [h0, h1, h2, h3, h4, h5, h7, h11]
theorem q_xobey {g : zSG} {r t i kd : Nat} {a b : Int32} {its : List qIt} (hr : r < 4) (ht : t < 8) (hi : i < 30) (hk : kd < 4) (hw : q_wT its) (hs : q_sx1 its (g 5 t)) : ∃ f an, zF_X2_obey [.inr (.inl (4, r, 0)), .inr (.inl (5, t, 0)), .inl (nI i), .inl (nI kd), .inl a, .inl b] g = some (.inl none, q_O g 4 r (q_dn (q_W (g 4 r) i kd a b f an 0 (q_ex ((g 4 r).2 9) a b 0 its 0 (q_E0 ((g 4 r).1 13) ((g 4 r).1 8) ((g 4 r).2 7 kd) ((g 4 r).2 0)))) i)) ∧ q_anr ((g 4 r).2 1) i an (q_ex ((g 4 r).2 9) a b 0 its 0 (q_E0 ((g 4 r).1 13) ((g 4 r).1 8) ((g 4 r).2 7 kd) ((g 4 r).2 0))) := by
  obtain ⟨h1, h2, h3, h4⟩ := hw
  rw [(ze_X2_obey (nI i) (nI kd) a b r hr t ht g).trans (zu_X2_obey_0 99999 (nI i) (nI kd) a b r t hr g), if_pos (q_inb' hi (by decide)), if_pos (q_inb' hi (by decide)), if_pos (q_inb' hi (by decide)), if_pos (q_inb' hi (by decide)), nI_clamp (by omega)]
  simp only [q_gI, q_gA, q_O_get, q_O_O]
  rw [q_W_start (g 4 r) i kd a b]
  exact q_xitems (y := g 4 r) (g := g) hr hi hk ht hs.1 h3 its.length its (Nat.le_refl _) 0 0 99999 _ _ _ hs.2.2 h1 (by omega) (by omega) (by omega) ⟨0, by decide, rfl, fun j hj => absurd hj (by omega), fun _ _ => rfl⟩
def q_hs (f : Nat) : Option zLS → Int32
  | none => 0
  | some E => if f < (E.1 4).toNatClampNeg then 1 else 0
theorem q_xhas {g : zSG} {r c f : Nat} (hr : r < 4) (hc : c < 30) (hf : f < 2 ^ 31) {o : Option zLS} (h : q_oX (g 4 r) c o) : zF_X2_has [.inr (.inl (4, r, 0)), .inl (nI c), .inl (nI f)] g = some (.inl (some (.inl (q_hs f o))), g) := by
  rw [(ze_X2_has (nI c) (nI f) r hr g).trans (zu_X2_has_0 99999 (nI c) (nI f) r hr g), if_pos (q_inb' hc (by decide)), nI_clamp (by omega)]
  cases o with
  | none =>
    rw [if_pos (show (g 4 r).2 6 c = 0 from h), q_00]
    rfl
  | some E =>
    obtain ⟨h6, m, hm, h4, h2, -⟩ := h
    rw [if_neg (show ¬ (g 4 r).2 6 c = 0 by rw [h6]; decide), if_neg (nI_pos (by omega)), if_pos (q_inb' hc (by decide)), h2]
    rw [show q_hs f (some E) = if f < m then 1 else 0 from by show (if f < (E.1 4).toNatClampNeg then (1 : Int32) else 0) = _; rw [h4, nI_clamp (by omega)]]
    by_cases e : f < m
    · rw [if_neg (nI_ge e (by omega)), q_11, if_pos e]
    · rw [if_pos (nI_le (by omega) (by omega)), q_00, if_neg e]
/-- the run behind an ask -/
theorem q_rx_do {P : qP} {n v i : Nat} {S : qRS} {y : zLS} {f an : Nat → Int32} (hi : i < 30) (hk : q_kd P i < 4) (h : q_rx P S y) (han : q_anr (y.2 1) i an (q_doE P v S i)) : q_rx P (q_do P v S i) (q_dn (q_W y i (q_kd P i) (q_arg P S.2 i) (q_fb P i) f an 0 (q_doE P v S i)) i) := by
  obtain ⟨⟨h1, h2, h3, h4⟩, h5, h6⟩ := h
  refine ⟨⟨?_, ?_, rfl, h4⟩, fun k hk => ?_, fun j hj => ?_⟩
  · show (q_doE P v S i).1 0 = upd (upd (upd S.1.1 0 _) 1 _) (10 + q_kd P i) _ 0
    rw [pk_un (by omega), pk_un (by decide), pk_us]
  · show (q_doE P v S i).1 1 = upd (upd (upd S.1.1 0 _) 1 _) (10 + q_kd P i) _ 1
    rw [pk_un (by omega), pk_us]
  · show upd (y.2 7) (q_kd P i) ((q_doE P v S i).1 6) k = upd (upd (upd S.1.1 0 _) 1 _) (10 + q_kd P i) ((q_doE P v S i).1 6) (10 + k)
    by_cases e : k = q_kd P i
    · subst e
      rw [pk_us, pk_us]
    · rw [pk_un e, pk_un (by omega), pk_un (by omega), pk_un (by omega)]
      exact h5 k hk
  · obtain ⟨m, hm, hm4, ha1, ha2⟩ := han
    by_cases e : j = i
    · subst e
      show q_oX _ j (va_up S.2 j (some (q_doE P v S j)) j)
      rw [va_up_self]
      refine ⟨pk_us, m, hm, hm4, ?_, ha1, ?_, ?_, ?_⟩
      · exact (pk_us (f := y.2 2)).trans hm4
      · exact pk_us
      · exact pk_us
      · exact pk_us
    · show q_oX _ j (va_up S.2 i (some (q_doE P v S i)) j)
      rw [va_up_ne _ _ e]
      have h7 := h6 j hj
      revert h7
      cases S.2 j with
      | none =>
        intro h7
        show upd (y.2 6) i 1 j = 0
        rw [pk_un e]
        exact h7
      | some E =>
        rintro ⟨h8, m', hm', k1, k2, k3, k4, k5, k6⟩
        refine ⟨(pk_un e).trans h8, m', hm', k1, ?_, fun l hl => ?_, ?_, ?_, ?_⟩
        · exact (pk_un (f := y.2 2) e).trans k2
        · exact (ha2 _ (by omega)).trans (k3 l hl)
        · exact (pk_un (f := y.2 3) e).trans k4
        · exact (pk_un (f := y.2 4) e).trans k5
        · exact (pk_un (f := y.2 5) e).trans k6
theorem q_xask {P : qP} {n : Nat} {g : zSG} {r v i : Nat} {S : qRS} (hr : r < 4) (hv : v < 2) (hi : i < n) (hw : q_wP P n) (hb : q_bk P n (g 2 0)) (hs : q_sx P (g 5)) (h : q_rx P S (g 4 r)) (hz : q_zx (g 4 r)) : ∃ y', zF_X4_doAsk [.inr (.inl (0, 0, 0)), .inr (.inl (4, r, 0)), .inl (nI v), .inl (nI i)] g = some (.inl none, q_O g 4 r y') ∧ q_rx P (q_do P v S i) y' ∧ q_zx y' ∧ q_kx (g 4 r) y' := by
  obtain ⟨hn, hw1, hw2, -⟩ := hw
  obtain ⟨w1, w2, w3, w4⟩ := hw1 i hi
  obtain ⟨b0, b1, b2, b3, b4, b5⟩ := hb.2.1 i hi
  have et : nI v * (4 : Int32) + nI (q_kd P i) = nI (v * 4 + q_kd P i) := by rw [show (4 : Int32) = nI 4 from rfl, pk_mul, nI_add]
  obtain ⟨f, an, e1, ha⟩ := q_xobey (g := g) (r := r) (i := i) (a := q_arg P S.2 i) (b := q_fb P i) hr (show v * 4 + q_kd P i < 8 by omega) (show i < 30 by omega) w1 (hw2 _ (by omega)) (hs _ (by omega))
  have eE : q_ex ((g 4 r).2 9) (q_arg P S.2 i) (q_fb P i) 0 (q_its P (v * 4 + q_kd P i)) 0 (q_E0 ((g 4 r).1 13) ((g 4 r).1 8) ((g 4 r).2 7 (q_kd P i)) ((g 4 r).2 0)) = q_doE P v S i := by
    obtain ⟨⟨h1, h2, h3, h4⟩, h5, -⟩ := h
    rw [h1, h2, h3, h4, h5 _ w1]
    rfl
  rw [eE] at e1 ha
  have hfin : q_rx P (q_do P v S i) (q_dn (q_W (g 4 r) i (q_kd P i) (q_arg P S.2 i) (q_fb P i) f an 0 (q_doE P v S i)) i) ∧ q_zx (q_dn (q_W (g 4 r) i (q_kd P i) (q_arg P S.2 i) (q_fb P i) f an 0 (q_doE P v S i)) i) ∧ q_kx (g 4 r) (q_dn (q_W (g 4 r) i (q_kd P i) (q_arg P S.2 i) (q_fb P i) f an 0 (q_doE P v S i)) i) := by
    refine ⟨q_rx_do (n := n) (by omega) w1 h ha, ⟨?_, hz.2.1, hz.2.2⟩, rfl, rfl⟩
    show q_z ((q_doE P v S i).2 0) 8
    rw [← eE]
    exact q_ex_z _ _ _ _ _ _ _ hz.1
  refine ⟨_, ?_, hfin⟩
  rw [(ze_X4_doAsk (nI v) (nI i) r hr g).trans (zu_X4_doAsk_0 99999 (nI v) (nI i) r g), if_pos (q_inb' (show i < 30 by omega) (by decide)), if_pos (q_inb' (show i < 30 by omega) (by decide)), if_pos (q_inb' (show i < 30 by omega) (by decide)), if_pos (q_inb' (show i < 30 by omega) (by decide)), nI_clamp (show i < 2 ^ 31 by omega), b0, b1, b2, b4, b5, et, nI_clamp (show v * 4 + q_kd P i < 2 ^ 31 by omega)]
  cases hc : q_by P i with
  | none =>
    have ea : q_arg P S.2 i = q_fa P i := by simp only [q_arg, hc]
    rw [show q_cI none = (-1 : Int32) from rfl, if_pos rfl, if_pos (q_inb' (by omega) (by decide)), if_pos (q_inb' (show i < 30 by omega) (by decide)), ← ea, e1, q_bV]
  | some c =>
    have hcn := w4 c hc
    rw [show q_cI (some c) = nI c from rfl, if_neg (q_nI_m1 (by omega)), q_xhas hr (show c < 30 by omega) (by omega) (h.2.2 c (by omega)), q_bI]
    cases hsc : S.2 c with
    | none =>
      have ea : q_arg P S.2 i = q_fa P i := by simp only [q_arg, hc, hsc]
      show (if (0 : Int32) = 0 then _ else _) = _
      rw [if_pos rfl, if_pos (q_inb' (by omega) (by decide)), if_pos (q_inb' (show i < 30 by omega) (by decide)), b2, ← ea, e1, q_bV]
    | some E =>
      have hE := h.2.2 c (by omega)
      rw [hsc] at hE
      obtain ⟨-, m, hm, h4, -, h6, -⟩ := hE
      show (if (if q_fd P i < (E.1 4).toNatClampNeg then (1 : Int32) else 0) = 0 then _ else _) = _
      by_cases hf : q_fd P i < (E.1 4).toNatClampNeg
      · have ea : q_arg P S.2 i = E.2 1 (q_fd P i) := by simp only [q_arg, hc, hsc, if_pos hf]
        have e8 : nI c * (8 : Int32) + nI (q_fd P i) = nI (c * 8 + q_fd P i) := by rw [show (8 : Int32) = nI 8 from rfl, pk_mul, nI_add]
        rw [if_pos hf, if_neg (by decide), if_pos hr, if_pos hr, e8, if_pos (q_inb' (by omega) (by decide)), if_pos (q_inb' (by omega) (by decide)), if_pos (q_inb' (show i < 30 by omega) (by decide)), nI_clamp (by omega), h6 _ (by rw [h4, nI_clamp (by omega)] at hf; exact hf), b2, ← ea, e1, q_bV]
      · have ea : q_arg P S.2 i = q_fa P i := by simp only [q_arg, hc, hsc, if_neg hf]
        rw [if_neg hf, if_pos rfl, if_pos (q_inb' (by omega) (by decide)), if_pos (q_inb' (show i < 30 by omega) (by decide)), b2, ← ea, e1, q_bV]
