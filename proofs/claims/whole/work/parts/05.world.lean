/-! ===== words, worlds, what a method asks and gives ===== -/
def zWS : List Cond := lw_tbl.filter goodWord
theorem zWS_mem {w : Cond} (h : w ∈ lw_tbl) (g : goodWord w = true) : w ∈ zWS := List.mem_filter.mpr ⟨h, g⟩
theorem zWS_good {w : Cond} (h : w ∈ zWS) : goodWord w = true := (List.mem_filter.mp h).2
theorem zWS_in : GoodIn zWS zWS := fun w h => ⟨h, good_of_word (zWS_good h)⟩
theorem zWS_of {args : Array Value} {s : State} (h : ∀ w ∈ lw_tbl, w.before args s = true) : ∀ w ∈ zWS, w.before args s = true := fun w hw => h w (List.mem_filter.mp hw).1
/-- the field words of all kinds -/
theorem z_inF : (zCL.all fun q => (u_ws q.1 q.2.1 q.2.2).all fun w => decide (w ∈ zWS)) = true := by decide +kernel
theorem z_inFw {c : Nat} {q : vw_C} (h : zCL[c]? = some q) : ∀ w ∈ u_ws q.1 q.2.1 q.2.2, w ∈ zWS := fun w hw => of_decide_eq_true (List.all_eq_true.mp (List.all_eq_true.mp z_inF q (List.mem_of_getElem? h)) w hw)
def z_ty (c : Nat) : Nat → FieldType := match c with
  | 0 => tyX4
  | 1 => tyX1
  | 2 => tyX0
  | 3 => tyX5
  | 4 => tyX2
  | _ => tyX3
theorem z_tyok {c : Nat} {q : vw_C} (h : zCL[c]? = some q) : ∀ k, k < q.2.2 → parseFieldDescriptor (q.2.1 k).2.2.1 = some (z_ty c k) := by
  match c, h with
  | 0, h => cases h; exact tyX4_ok
  | 1, h => cases h; exact tyX1_ok
  | 2, h => cases h; exact tyX0_ok
  | 3, h => cases h; exact tyX5_ok
  | 4, h => cases h; exact tyX2_ok
  | 5, h => cases h; exact tyX3_ok
  | n + 6, h => cases h
theorem z_nmok {c : Nat} {q : vw_C} (h : zCL[c]? = some q) : ∀ a, a < q.2.2 → ∀ b, b < q.2.2 → a ≠ b → (q.2.1 a).2.1 ≠ (q.2.1 b).2.1 := by
  match c, h with
  | 0, h => cases h; exact nmX4
  | 1, h => cases h; exact nmX1
  | 2, h => cases h; exact nmX0
  | 3, h => cases h; exact nmX5
  | 4, h => cases h; exact nmX2
  | 5, h => cases h; exact nmX3
  | n + 6, h => cases h
theorem z_nfok {c : Nat} {q : vw_C} (h : zCL[c]? = some q) : q.2.2 = z_nf c := by
  match c, h with
  | 0, h => cases h; rfl
  | 1, h => cases h; rfl
  | 2, h => cases h; rfl
  | 3, h => cases h; rfl
  | 4, h => cases h; rfl
  | 5, h => cases h; rfl
  | n + 6, h => cases h
theorem zWI_nd : zWI.Nodup := by decide +kernel
theorem zWI_obj : ∀ c, c < 5 → ∀ o, o < z_ni c → (c, o, 0) ∈ zWI := by decide +kernel
theorem zWI_arr0 : ((List.range 5).all fun c => (List.range (z_ni c)).all fun o => (List.range (z_nf c)).all fun k => !(Nat.blt (z_ak c k).1 4) || decide ((c, o, k + 1) ∈ zWI)) = true := by decide +kernel
theorem zWI_arr (c : Nat) (hc : c < 5) (o : Nat) (ho : o < z_ni c) (k : Nat) (hk : k < z_nf c) (h : (z_ak c k).1 < 4) : (c, o, k + 1) ∈ zWI := by
  have h1 := List.all_eq_true.mp (List.all_eq_true.mp (List.all_eq_true.mp zWI_arr0 c (List.mem_range.mpr hc)) o (List.mem_range.mpr ho)) k (List.mem_range.mpr hk)
  simp only [Bool.or_eq_true, Bool.not_eq_true', decide_eq_true_eq] at h1
  rcases h1 with h1 | h1
  · have h2 : Nat.blt (z_ak c k).1 4 = true := Nat.blt_eq.mpr h
    rw [h2] at h1
    cases h1
  · exact h1
theorem zSI_obj : ∀ o, o < 8 → (5, o, 0) ∈ zSI := by decide +kernel
theorem zSI_arr : ∀ o, o < 8 → (5, o, 1) ∈ zSI := by decide +kernel
theorem zWI_lt : ∀ q ∈ zWI, q.1 < 5 := by decide +kernel
/-- the heap holds the world -/
def zHP (D : va_G) (ca : Nat → ClassId) (ad : zAD) (A : Nat → Prop) (g : zSG) (H : Heap) : Prop := va_P D zCL (z_wl ad ca g) H ∧ va_D A (z_wl ad ca g)
theorem z_gI_at (g : zSG) (c i k : Nat) (v : Int32) (c' i' : Nat) : z_gI g c i k v c' i' = if c' = c ∧ i' = i then (upd (g c i).1 k v, (g c i).2) else g c' i' := by
  unfold z_gI va_up
  by_cases h : c' = c
  · subst h
    by_cases h2 : i' = i
    · subst h2; simp
    · simp [h2]
  · simp [h]
theorem z_gA_at (g : zSG) (c i k : Nat) (f : Nat → Int32) (c' i' : Nat) : z_gA g c i k f c' i' = if c' = c ∧ i' = i then ((g c i).1, va_up (g c i).2 k f) else g c' i' := by
  unfold z_gA va_up
  by_cases h : c' = c
  · subst h
    by_cases h2 : i' = i
    · subst h2; simp
    · simp [h2]
  · simp [h]
theorem z_gI_5 {g : zSG} {c i k : Nat} {v : Int32} (h : c < 5) : z_gI g c i k v 5 = g 5 := by
  unfold z_gI va_up
  have : ¬ (5 : Nat) = c := by omega
  simp [this]
theorem z_gA_5 {g : zSG} {c i k : Nat} {f : Nat → Int32} (h : c < 5) : z_gA g c i k f 5 = g 5 := by
  unfold z_gA va_up
  have : ¬ (5 : Nat) = c := by omega
  simp [this]
theorem z_gI_2 (g : zSG) (c i k : Nat) (v : Int32) (c' i' : Nat) : (z_gI g c i k v c' i').2 = (g c' i').2 := by
  rw [z_gI_at]
  by_cases h : c' = c ∧ i' = i
  · rw [if_pos h, h.1, h.2]
  · rw [if_neg h]
theorem z_gA_1 (g : zSG) (c i k : Nat) (f : Nat → Int32) (c' i' : Nat) : (z_gA g c i k f c' i').1 = (g c' i').1 := by
  rw [z_gA_at]
  by_cases h : c' = c ∧ i' = i
  · rw [if_pos h, h.1, h.2]
  · rw [if_neg h]
theorem z_alen_eq {g g' : zSG} {c i k : Nat} (h : g' 5 = g 5) : z_alen g' c i k = z_alen g c i k := by
  unfold z_alen
  split
  · rw [h]
  · rfl
theorem z_cell_0 (ad : zAD) (ca : Nat → ClassId) (g : zSG) (c i : Nat) : z_cell ad ca g (c, i, 0) = .inr (c, (List.range (z_nf c)).map (z_fval ad g c i)) := rfl
theorem z_fval_cong {ad : zAD} {g g' : zSG} {c i k : Nat} (h : (g' c i).1 k = (g c i).1 k) : z_fval ad g' c i k = z_fval ad g c i k := by
  unfold z_fval
  split <;> simp [h]
theorem z_cell_gI {ad : zAD} {ca : Nat → ClassId} {g : zSG} {c i k : Nat} {v : Int32} (hc : c < 5) {q : Nat × Nat × Nat} (h : q ≠ (c, i, 0)) : z_cell ad ca (z_gI g c i k v) q = z_cell ad ca g q := by
  obtain ⟨c', i', k'⟩ := q
  cases k' with
  | zero =>
    have hn : ¬ (c' = c ∧ i' = i) := fun z => h (by rw [z.1, z.2])
    rw [z_cell_0, z_cell_0]
    have : z_fval ad (z_gI g c i k v) c' i' = z_fval ad g c' i' := by
      funext j
      exact z_fval_cong (by rw [z_gI_at, if_neg hn])
    rw [this]
  | succ k' =>
    unfold z_cell
    dsimp only
    rw [z_alen_eq (z_gI_5 hc), z_gI_2]
theorem z_cell_gA {ad : zAD} {ca : Nat → ClassId} {g : zSG} {c i k : Nat} {f : Nat → Int32} (hc : c < 5) {q : Nat × Nat × Nat} (h : q ≠ (c, i, k + 1)) : z_cell ad ca (z_gA g c i k f) q = z_cell ad ca g q := by
  obtain ⟨c', i', k'⟩ := q
  cases k' with
  | zero =>
    rw [z_cell_0, z_cell_0]
    have : z_fval ad (z_gA g c i k f) c' i' = z_fval ad g c' i' := by
      funext j
      exact z_fval_cong (by rw [z_gA_1])
    rw [this]
  | succ k' =>
    have h2 : (z_gA g c i k f c' i').2 k' = (g c' i').2 k' := by
      rw [z_gA_at]
      by_cases hn : c' = c ∧ i' = i
      · rw [if_pos hn, hn.1, hn.2]
        have : k' ≠ k := fun z => h (by rw [hn.1, hn.2, z])
        show va_up (g c i).2 k f k' = _
        rw [va_up_ne _ _ this]
      · rw [if_neg hn]
    unfold z_cell
    dsimp only
    rw [z_alen_eq (z_gA_5 hc), h2]
theorem z_rangeset {α : Type} {n k : Nat} {f f' : Nat → α} (hk : k < n) (h : ∀ j, j ≠ k → f' j = f j) : (List.range n).map f' = ((List.range n).map f).set k (f' k) := by
  apply List.ext_getElem?
  intro j
  by_cases hj : j = k
  · subst hj
    rw [List.getElem?_set_self (by simpa using hk)]
    simp [hk]
  · rw [List.getElem?_set_ne (Ne.symm hj)]
    simp only [List.getElem?_map]
    cases hq : (List.range n)[j]? with
    | none => rfl
    | some x =>
      have hx : x = j := by
        have := List.getElem?_eq_some_iff.mp hq
        obtain ⟨h1, h2⟩ := this
        simpa using h2.symm
      simp only [Option.map_some]
      rw [hx, h j hj]
theorem z_wlset {ad : zAD} {ca : Nat → ClassId} {g g' : zSG} {k : Nat} {q : Nat × Nat × Nat} {e : va_E} (hk : zWI[k]? = some q) (he : z_cell ad ca g' q = e) (ho : ∀ q', q' ≠ q → z_cell ad ca g' q' = z_cell ad ca g q') : (z_wl ad ca g).set k (z_aq ad q, e) = z_wl ad ca g' := by
  have hl : k < zWI.length := (List.getElem?_eq_some_iff.mp hk).1
  apply List.ext_getElem?
  intro j
  unfold z_wl
  by_cases hj : j = k
  · subst hj
    rw [List.getElem?_set_self (by simpa using hl)]
    simp only [List.getElem?_map, hk, Option.map_some]
    rw [he]
  · rw [List.getElem?_set_ne (Ne.symm hj)]
    simp only [List.getElem?_map]
    cases hq : zWI[j]? with
    | none => rfl
    | some x =>
      have hx : x ≠ q := by
        intro z
        subst z
        have h1 := List.getElem?_eq_some_iff.mp hq
        have h2 := List.getElem?_eq_some_iff.mp hk
        obtain ⟨a1, a2⟩ := h1
        obtain ⟨b1, b2⟩ := h2
        exact hj ((List.getElem?_inj a1 zWI_nd).mp (hq.trans hk.symm))
      simp only [Option.map_some]
      rw [ho x hx]
theorem z_wlget {ad : zAD} {ca : Nat → ClassId} {g : zSG} {q : Nat × Nat × Nat} (h : q ∈ zWI) : ∃ k : Nat, zWI[k]? = some q ∧ (z_wl ad ca g)[k]? = some (z_aq ad q, z_cell ad ca g q) := by
  obtain ⟨k, hk⟩ := List.getElem?_of_mem h
  refine ⟨k, hk, ?_⟩
  unfold z_wl
  rw [List.getElem?_map, hk]
  rfl
