/-! ===== pure part: states ===== -/
def q_O (g : zSG) (c i : Nat) (y : zLS) : zSG := va_up g c (va_up (g c) i y)
theorem q_O_get (g : zSG) (c i : Nat) (y : zLS) : q_O g c i y c i = y := by
  unfold q_O
  rw [va_up_self, va_up_self]
theorem q_O_c (g : zSG) {c c' : Nat} (i : Nat) (y : zLS) (h : c' ≠ c) : q_O g c i y c' = g c' := va_up_ne _ _ h
theorem q_O_i (g : zSG) (c : Nat) {i i' : Nat} (y : zLS) (h : i' ≠ i) : q_O g c i y c i' = g c i' := by
  unfold q_O
  rw [va_up_self, va_up_ne _ _ h]
theorem q_up_self {α : Type} (f : Nat → α) (k : Nat) : va_up f k (f k) = f := by
  funext j
  unfold va_up
  by_cases h : j = k <;> simp [h]
theorem q_O_O (g : zSG) (c i : Nat) (x y : zLS) : q_O (q_O g c i x) c i y = q_O g c i y := by
  unfold q_O
  rw [va_up_self, bx_uu, bx_uu]
theorem q_O_self (g : zSG) (c i : Nat) : q_O g c i (g c i) = g := by
  unfold q_O
  rw [q_up_self, q_up_self]
theorem q_O_swap (g : zSG) {c i d j : Nat} (h : c ≠ d ∨ i ≠ j) (x y : zLS) : q_O (q_O g c i x) d j y = q_O (q_O g d j y) c i x := by
  funext a b
  unfold q_O va_up
  by_cases h1 : a = c <;> by_cases h2 : a = d <;> by_cases h3 : b = i <;> by_cases h4 : b = j <;> simp_all
theorem q_gI (g : zSG) (c i k : Nat) (v : Int32) : z_gI g c i k v = q_O g c i (upd (g c i).1 k v, (g c i).2) := rfl
theorem q_gA (g : zSG) (c i k : Nat) (f : Nat → Int32) : z_gA g c i k f = q_O g c i ((g c i).1, va_up (g c i).2 k f) := rfl
theorem q_bI (x : Int32) (g : zSG) (k : Int32 → zSG → Option zRR) : z_bI (some (.inl (some (.inl x)), g)) k = k x g := rfl
theorem q_bL (x : Int64) (g : zSG) (k : Int64 → zSG → Option zRR) : z_bL (some (.inl (some (.inr (.inr x))), g)) k = k x g := rfl
theorem q_bV (g : zSG) (k : zSG → Option zRR) : z_bV (some (.inl none, g)) k = k g := rfl
theorem q_bIx (e : Nat) (g : zSG) (k : Int32 → zSG → Option zRR) : z_bI (some (.inr e, g)) k = some (.inr e, g) := rfl
theorem q_bVx (e : Nat) (g : zSG) (k : zSG → Option zRR) : z_bV (some (.inr e, g)) k = some (.inr e, g) := rfl
theorem q_01 (x : Int32) (h : x = 0 ∨ x = 1) {α : Type} (a b : α) : (if x = 0 ∨ x = 1 then a else b) = a := if_pos h
theorem q_00 {α : Type} (a b : α) : (if (0 : Int32) = 0 ∨ (0 : Int32) = 1 then a else b) = a := if_pos (Or.inl rfl)
theorem q_11 {α : Type} (a b : α) : (if (1 : Int32) = 0 ∨ (1 : Int32) = 1 then a else b) = a := if_pos (Or.inr rfl)
theorem q_inb {k n : Nat} (hk : k < 2 ^ 31) : z_inb (nI k) n ↔ k < n := by
  unfold z_inb
  rw [nI_toInt hk]
  omega
theorem q_inb' {k n : Nat} (h : k < n) (hn : n < 2 ^ 31) : z_inb (nI k) n := (q_inb (by omega)).mpr h
theorem q_and (x : Int32) {m : Int32} (k : Nat) (hm : m.toBitVec.toNat = 2 ^ k - 1) : ∃ j : Nat, j < 2 ^ k ∧ x &&& m = nI j := pk_andE x k hm
theorem q_and_inb (x : Int32) {m : Int32} (k : Nat) (hm : m.toBitVec.toNat = 2 ^ k - 1) (hk : 2 ^ k < 2 ^ 31) : z_inb (x &&& m) (2 ^ k) := by
  obtain ⟨j, hj, e⟩ := pk_andE x k hm
  rw [e]
  exact q_inb' hj hk
theorem q_and7 (x : Int32) : z_inb (x &&& 7) 8 := q_and_inb x 3 (by decide) (by decide)
theorem q_and15 (x : Int32) : z_inb (x &&& 15) 16 := q_and_inb x 4 (by decide) (by decide)
/-! a stack in a row -/
def q_st (f : Nat → Int32) : List Int32 → Prop
  | [] => True
  | v :: r => f r.length = v ∧ q_st f r
theorem q_st_up {f : Nat → Int32} {k : Nat} {v : Int32} : ∀ {st : List Int32}, q_st f st → st.length ≤ k → q_st (upd f k v) st
  | [], _, _ => trivial
  | w :: r, h, hk => ⟨by rw [pk_un (by simp at hk; omega)]; exact h.1, q_st_up h.2 (by simp at hk; omega)⟩
theorem q_st_push {f : Nat → Int32} {v : Int32} {st : List Int32} (h : q_st f st) : q_st (upd f st.length v) (v :: st) := ⟨pk_us, q_st_up h (Nat.le_refl _)⟩
/-! what a script does: its state: ints 0 latest 1 called 2 reads 3 writes 4 length 5 steps 6 steps done; rows 0 keys 1 answer -/
def q_join (k : Nat) (x y : Int32) : Int32 := match k with
  | 6 => x + y
  | 7 => x - y
  | 8 => x * y
  | 9 => if y ≤ x then 0 else 1
  | _ => if x = y then 1 else 0
def q_op (kept : Nat → Int32) (a b : Int32) (o : Nat × Nat) (st : List Int32) (E : zLS) : List Int32 × zLS := match o.1 with
  | 0 => (nI o.2 :: st, E)
  | 1 => (a :: st, E)
  | 2 => (b :: st, E)
  | 3 => ((E.1 0 + 1) :: st, (upd E.1 0 (E.1 0 + 1), E.2))
  | 4 => match st with
    | v :: r => (E.2 0 (v &&& 7).toNatClampNeg :: r, (upd E.1 2 (E.1 2 ||| ((1 : Int32) <<< ((v &&& 7) &&& 31))), E.2))
    | [] => ([], E)
  | 5 => match st with
    | v :: r => (kept (v &&& 15).toNatClampNeg :: r, (upd E.1 1 (E.1 1 + 1), E.2))
    | [] => ([], E)
  | k => match st with
    | y :: x :: r => (q_join k x y :: r, E)
    | _ => ([], E)
def q_dep (k d : Nat) : Option Nat := if k ≤ 3 then (if d < 32 then some (d + 1) else none) else if k ≤ 5 then (if 0 < d ∧ d ≤ 32 then some d else none) else if k ≤ 10 then (if 1 < d ∧ d ≤ 32 then some (d - 1) else none) else none
def q_ops (kept : Nat → Int32) (a b : Int32) : List (Nat × Nat) → List Int32 → zLS → List Int32 × zLS
  | [], st, E => (st, E)
  | o :: r, st, E => q_ops kept a b r (q_op kept a b o st E).1 (q_op kept a b o st E).2
def q_deps : List (Nat × Nat) → Nat → Option Nat
  | [], d => some d
  | o :: r, d => match q_dep o.1 d with
    | some d' => q_deps r d'
    | none => none
/-! the run while a script is obeyed -/
def q_W (y : zLS) (ask kind : Nat) (a b : Int32) (f an : Nat → Int32) (d : Nat) (E : zLS) : zLS :=
  (upd (upd (upd (upd (upd (upd y.1 15 (nI ask)) 16 a) 17 b) 8 (E.1 1)) 13 (E.1 0)) 14 (nI d),
   va_up (va_up (va_up (va_up (va_up (va_up (va_up (va_up y.2 7 (upd (y.2 7) kind (E.1 6))) 5 (upd (y.2 5) ask (E.1 5))) 4 (upd (y.2 4) ask (E.1 3))) 2 (upd (y.2 2) ask (E.1 4))) 1 an) 0 (E.2 0)) 3 (upd (y.2 3) ask (E.1 2))) 11 f)
section Wr
variable {y : zLS} {ask kind : Nat} {a b : Int32} {f an : Nat → Int32} {d : Nat} {E : zLS}
theorem q_W14 (f' : Nat → Int32) (d' : Nat) : (upd (q_W y ask kind a b f an d E).1 14 (nI d'), va_up (q_W y ask kind a b f an d E).2 11 f') = q_W y ask kind a b f' an d' E := by
  unfold q_W
  simp only [fa_upd_twice, bx_uu]
theorem q_W14' (d' : Nat) : (upd (q_W y ask kind a b f an d E).1 14 (nI d'), (q_W y ask kind a b f an d E).2) = q_W y ask kind a b f an d' E := by
  unfold q_W
  simp only [fa_upd_twice]
theorem q_W13 (v : Int32) : (upd (q_W y ask kind a b f an d E).1 13 v, (q_W y ask kind a b f an d E).2) = q_W y ask kind a b f an d (upd E.1 0 v, E.2) := by
  refine Prod.ext (funext fun k => ?_) rfl
  by_cases h : k = 13 <;> simp [q_W, upd, h]
theorem q_W8 (v : Int32) : (upd (q_W y ask kind a b f an d E).1 8 v, (q_W y ask kind a b f an d E).2) = q_W y ask kind a b f an d (upd E.1 1 v, E.2) := by
  refine Prod.ext (funext fun k => ?_) rfl
  by_cases h : k = 8 <;> simp [q_W, upd, h]
theorem q_W_r2 : (q_W y ask kind a b f an d E).2 2 ask = E.1 4 := pk_us
theorem q_W_r3 : (q_W y ask kind a b f an d E).2 3 ask = E.1 2 := pk_us
theorem q_W_r4 : (q_W y ask kind a b f an d E).2 4 ask = E.1 3 := pk_us
theorem q_W_r5 : (q_W y ask kind a b f an d E).2 5 ask = E.1 5 := pk_us
theorem q_W_r7 : (q_W y ask kind a b f an d E).2 7 kind = E.1 6 := pk_us
theorem q_W_0 : (q_W y ask kind a b f an d E).2 0 = E.2 0 := rfl
theorem q_W_1 : (q_W y ask kind a b f an d E).2 1 = an := rfl
theorem q_W_9 : (q_W y ask kind a b f an d E).2 9 = y.2 9 := rfl
theorem q_W_11 : (q_W y ask kind a b f an d E).2 11 = f := rfl
theorem q_W_i8 : (q_W y ask kind a b f an d E).1 8 = E.1 1 := rfl
theorem q_W_i13 : (q_W y ask kind a b f an d E).1 13 = E.1 0 := rfl
theorem q_W_i14 : (q_W y ask kind a b f an d E).1 14 = nI d := rfl
theorem q_W_i15 : (q_W y ask kind a b f an d E).1 15 = nI ask := rfl
theorem q_W_i16 : (q_W y ask kind a b f an d E).1 16 = a := rfl
theorem q_W_i17 : (q_W y ask kind a b f an d E).1 17 = b := rfl
theorem q_W3 (v : Int32) : ((q_W y ask kind a b f an d E).1, va_up (q_W y ask kind a b f an d E).2 3 (upd ((q_W y ask kind a b f an d E).2 3) ask v)) = q_W y ask kind a b f an d (upd E.1 2 v, E.2) := by
  refine Prod.ext rfl (funext fun k => ?_)
  by_cases h : k = 3 <;> simp [q_W, va_up, h, fa_upd_twice, pk_us, pk_un]
theorem q_W4 (v : Int32) : ((q_W y ask kind a b f an d E).1, va_up (q_W y ask kind a b f an d E).2 4 (upd ((q_W y ask kind a b f an d E).2 4) ask v)) = q_W y ask kind a b f an d (upd E.1 3 v, E.2) := by
  refine Prod.ext rfl (funext fun k => ?_)
  by_cases h : k = 4 <;> simp [q_W, va_up, h, fa_upd_twice, pk_us, pk_un]
theorem q_W5 (v : Int32) : ((q_W y ask kind a b f an d E).1, va_up (q_W y ask kind a b f an d E).2 5 (upd ((q_W y ask kind a b f an d E).2 5) ask v)) = q_W y ask kind a b f an d (upd E.1 5 v, E.2) := by
  refine Prod.ext rfl (funext fun k => ?_)
  by_cases h : k = 5 <;> simp [q_W, va_up, h, fa_upd_twice, pk_us, pk_un]
theorem q_W7 (v : Int32) : ((q_W y ask kind a b f an d E).1, va_up (q_W y ask kind a b f an d E).2 7 (upd ((q_W y ask kind a b f an d E).2 7) kind v)) = q_W y ask kind a b f an d (upd E.1 6 v, E.2) := by
  refine Prod.ext rfl (funext fun k => ?_)
  by_cases h : k = 7 <;> simp [q_W, va_up, h, fa_upd_twice, pk_us, pk_un]
theorem q_W2 (v : Int32) : ((q_W y ask kind a b f an d E).1, va_up (q_W y ask kind a b f an d E).2 2 (upd ((q_W y ask kind a b f an d E).2 2) ask v)) = q_W y ask kind a b f an d (upd E.1 4 v, E.2) := by
  refine Prod.ext rfl (funext fun k => ?_)
  by_cases h : k = 2 <;> simp [q_W, va_up, h, fa_upd_twice, pk_us, pk_un]
theorem q_W0 (w : Nat → Int32) : ((q_W y ask kind a b f an d E).1, va_up (q_W y ask kind a b f an d E).2 0 w) = q_W y ask kind a b f an d (E.1, va_up E.2 0 w) := by
  refine Prod.ext rfl (funext fun k => ?_)
  by_cases h : k = 0 <;> simp [q_W, va_up, h]
theorem q_W1 (w : Nat → Int32) : ((q_W y ask kind a b f an d E).1, va_up (q_W y ask kind a b f an d E).2 1 w) = q_W y ask kind a b f w d E := by
  refine Prod.ext rfl (funext fun k => ?_)
  by_cases h : k = 1 <;> simp [q_W, va_up, h]
theorem q_W57 (v w : Int32) : ((q_W y ask kind a b f an d E).1, va_up (va_up (q_W y ask kind a b f an d E).2 7 (upd ((q_W y ask kind a b f an d E).2 7) kind w)) 5 (upd ((q_W y ask kind a b f an d E).2 5) ask v)) = q_W y ask kind a b f an d (upd (upd E.1 6 w) 5 v, E.2) := by
  refine Prod.ext rfl (funext fun k => ?_)
  by_cases h : k = 5
  · simp [q_W, va_up, h, fa_upd_twice, pk_us, pk_un]
  · by_cases h7 : k = 7 <;> simp [q_W, va_up, h, h7, fa_upd_twice, pk_us, pk_un]
theorem q_W40 (v : Int32) (w : Nat → Int32) : ((q_W y ask kind a b f an d E).1, va_up (va_up (q_W y ask kind a b f an d E).2 4 (upd ((q_W y ask kind a b f an d E).2 4) ask v)) 0 w) = q_W y ask kind a b f an d (upd E.1 3 v, va_up E.2 0 w) := by
  refine Prod.ext rfl (funext fun k => ?_)
  by_cases h : k = 0
  · simp [q_W, va_up, h]
  · by_cases h7 : k = 4 <;> simp [q_W, va_up, h, h7, fa_upd_twice, pk_us, pk_un]
theorem q_W12 (v : Int32) (w : Nat → Int32) : ((q_W y ask kind a b f an d E).1, va_up (va_up (q_W y ask kind a b f an d E).2 1 w) 2 (upd ((q_W y ask kind a b f an d E).2 2) ask v)) = q_W y ask kind a b f w d (upd E.1 4 v, E.2) := by
  refine Prod.ext rfl (funext fun k => ?_)
  by_cases h : k = 2
  · simp [q_W, va_up, h, fa_upd_twice, pk_us, pk_un]
  · by_cases h7 : k = 1 <;> simp [q_W, va_up, h, h7, fa_upd_twice, pk_us, pk_un]
theorem q_W1E (w : Nat → Int32) : q_W y ask kind a b f an d (E.1, va_up E.2 1 w) = q_W y ask kind a b f an d E := rfl
variable {g : zSG} {r : Nat}
theorem q_xpush (hr : r < 4) (v : Int32) (hd : d < 32) : zF_X2_push [.inr (.inl (4, r, 0)), .inl v] (q_O g 4 r (q_W y ask kind a b f an d E)) = some (.inl none, q_O g 4 r (q_W y ask kind a b (upd f d v) an (d + 1) E)) := by
  rw [(ze_X2_push v r hr _).trans (zu_X2_push_0 99999 v r hr _), q_O_get, q_W_i14, if_neg (show ¬ (32 : Int32) ≤ nI d from nI_ge (b := 32) hd (by decide)), if_pos (q_inb' hd (by decide)), nI_clamp (by omega)]
  simp only [q_gI, q_gA, q_O_get, q_O_O, nI_1, q_W_11]
  rw [q_W14]
theorem q_xpop (hr : r < 4) (hd : d < 32) : zF_X2_pop [.inr (.inl (4, r, 0))] (q_O g 4 r (q_W y ask kind a b f an (d + 1) E)) = some (.inl (some (.inl (f d))), q_O g 4 r (q_W y ask kind a b f an d E)) := by
  rw [(ze_X2_pop r hr _).trans (zu_X2_pop_0 99999 r hr _), q_O_get, q_W_i14, if_pos (show (0 : Int32) < nI (d + 1) from nI_lt (a := 0) (by omega) (by omega)), nI_pred, if_pos (q_inb' hd (by decide)), nI_clamp (by omega)]
  simp only [q_gI, q_O_get, q_O_O, q_W_11]
  rw [q_W14']
theorem q_xread (hr : r < 4) (v : Int32) (ha : ask < 30) : zF_X2_read [.inr (.inl (4, r, 0)), .inl v] (q_O g 4 r (q_W y ask kind a b f an d E)) = some (.inl (some (.inl (E.2 0 (v &&& 7).toNatClampNeg))), q_O g 4 r (q_W y ask kind a b f an d (upd E.1 2 (E.1 2 ||| ((1 : Int32) <<< ((v &&& 7) &&& 31))), E.2))) := by
  rw [(ze_X2_read v r hr _).trans (zu_X2_read_0 99999 v r hr _), q_O_get, q_W_i15, if_pos (q_inb' ha (by decide)), if_pos (q_inb' ha (by decide)), if_pos (q_and7 v), nI_clamp (by omega)]
  simp only [q_gA, q_O_get, q_O_O, q_W_r3, q_W_0]
  rw [q_W3]
theorem q_xwrite (hr : r < 4) (w v : Int32) (ha : ask < 30) : zF_X2_write [.inr (.inl (4, r, 0)), .inl w, .inl v] (q_O g 4 r (q_W y ask kind a b f an d E)) = some (.inl none, q_O g 4 r (q_W y ask kind a b f an d (upd E.1 3 (E.1 3 ||| ((1 : Int32) <<< ((w &&& 7) &&& 31))), va_up E.2 0 (upd (E.2 0) (w &&& 7).toNatClampNeg v)))) := by
  rw [(ze_X2_write w v r hr _).trans (zu_X2_write_0 99999 w v r hr _), q_O_get, q_W_i15, if_pos (q_inb' ha (by decide)), if_pos (q_inb' ha (by decide)), if_pos (q_and7 w), nI_clamp (by omega)]
  simp only [q_gA, q_O_get, q_O_O, q_W_r4, q_W_0]
  rw [q_W40]
theorem q_xanswer (hr : r < 4) (v : Int32) (ha : ask < 30) (m : Nat) (hm : m ≤ 8) (he : E.1 4 = nI m) : zF_X2_answer [.inr (.inl (4, r, 0)), .inl v] (q_O g 4 r (q_W y ask kind a b f an d E)) = some (.inl none, q_O g 4 r (if m < 8 then q_W y ask kind a b f (upd an (ask * 8 + m) v) d (upd E.1 4 (nI (m + 1)), E.2) else q_W y ask kind a b f an d E)) := by
  rw [(ze_X2_answer v r hr _).trans (zu_X2_answer_0 99999 v r hr _), q_O_get, q_W_i15, if_pos (q_inb' ha (by decide)), nI_clamp (by omega), q_W_r2, he]
  by_cases h : m < 8
  · rw [if_neg (show ¬ (8 : Int32) ≤ nI m from nI_ge (b := 8) h (by decide)), if_pos (q_inb' ha (by decide)), show nI ask * (8 : Int32) + nI m = nI (ask * 8 + m) from by rw [show (8 : Int32) = nI 8 from rfl, pk_mul, nI_add], if_pos (q_inb' (by omega) (by decide)), if_pos (q_inb' ha (by decide)), if_pos (q_inb' ha (by decide)), nI_clamp (by omega), if_pos h]
    simp only [q_gA, q_O_get, q_O_O, q_W_1, nI_1]
    rw [q_W12]
  · rw [if_pos (show (8 : Int32) ≤ nI m from nI_le (a := 8) (by omega) (by omega)), if_neg h]
theorem q_xjoin (k : Nat) (hk : 6 ≤ k) (hk2 : k ≤ 10) (x v : Int32) : zF_X2_join [.inl (nI k), .inl x, .inl v] g = some (.inl (some (.inl (q_join k x v))), g) := by
  rw [(ze_X2_join (nI k) x v g).trans (zu_X2_join_0 99999 (nI k) x v g), nI_toInt (by omega)]
  rcases (show k = 6 ∨ k = 7 ∨ k = 8 ∨ k = 9 ∨ k = 10 by omega) with rfl | rfl | rfl | rfl | rfl
  · rfl
  · rfl
  · rfl
  · by_cases h : v ≤ x <;> simp [q_join, h]
  · by_cases h : x = v <;> simp [q_join, h]
end Wr
