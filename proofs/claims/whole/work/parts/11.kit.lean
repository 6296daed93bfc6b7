/-! ===== what the printed methods use ===== -/
abbrev zrm (d mc ms : Nat) : Room := { frames := d, cells := mc, slots := ms, locals := 40 * d }
/-- kinds of what comes in: 0 an int, 1 a long, 2 that very thing, 3 an object of a kind, 4 the runs with all or the trial runs -/
def z_chk : List (Nat × Nat × Nat × Nat) → List zVV → Bool
  | [], [] => true
  | (0, _) :: r, .inl _ :: vs => z_chk r vs
  | (1, _) :: r, .inr (.inr _) :: vs => z_chk r vs
  | (2, c, i, k) :: r, .inr (.inl (c', i', k')) :: vs => Nat.beq c c' && Nat.beq i i' && Nat.beq k k' && z_chk r vs
  | (3, c, _, k) :: r, .inr (.inl (c', i', k')) :: vs => Nat.beq c c' && Nat.blt i' (z_ni c) && Nat.beq k k' && z_chk r vs
  | (4, _, _, _) :: r, .inr (.inl (c', i', k')) :: vs => Nat.beq c' 0 && Nat.beq i' 0 && (Nat.beq k' 8 || Nat.beq k' 9) && z_chk r vs
  | _, _ => false
def z_wd : List (Nat × Nat × Nat × Nat) → Nat
  | [] => 0
  | q :: r => (bif Nat.beq q.1 1 then 2 else 1) + z_wd r
theorem z_chk_len {ad : zAD} : ∀ (sh : List (Nat × Nat × Nat × Nat)) (vs : List zVV), z_chk sh vs = true → (lg_sl (vs.map (z_tV ad))).length ≤ z_wd sh := by
  intro sh
  induction sh with
  | nil =>
    intro vs h
    cases vs with
    | nil => exact Nat.le_refl 0
    | cons v vs => cases h
  | cons q sh ih =>
    intro vs h
    cases vs with
    | nil => unfold z_chk at h; split at h <;> simp_all
    | cons v vs =>
      obtain ⟨t, c, i, k⟩ := q
      have key : z_chk sh vs = true ∧ (t = 1 ∨ z_isL v = false) := by
        unfold z_chk at h
        split at h <;> simp_all [z_isL]
      have h1 := ih vs key.1
      have e : (lg_sl ((v :: vs).map (z_tV ad))).length = (if z_isL v then 2 else 1) + (lg_sl (vs.map (z_tV ad))).length := by
        rcases v with x | q | x
        · simp [z_tV, lg_sl, z_isL, Value.category]; omega
        · simp [z_tV, lg_sl, z_isL, Value.category]; omega
        · simp [z_tV, lg_sl, z_isL, Value.category]; omega
      rw [e]
      rcases key.2 with rfl | hv
      · show _ ≤ 2 + z_wd sh
        split <;> omega
      · rw [hv]
        have e2 : z_wd ((t, c, i, k) :: sh) = (bif Nat.beq t 1 then 2 else 1) + z_wd sh := rfl
        have : 1 + z_wd sh ≤ z_wd ((t, c, i, k) :: sh) := by
          rw [e2]
          cases Nat.beq t 1
          · exact Nat.le_refl _
          · show 1 + z_wd sh ≤ 2 + z_wd sh
            omega
        simp only [Bool.false_eq_true, if_false]
        omega
theorem z_chk_rec {sh : List (Nat × Nat × Nat × Nat)} {vs : List zVV} {t c i : Nat} (h : z_chk ((t, c, i, 0) :: sh) vs = true) (ht : (t = 2 ∧ i < z_ni c) ∨ t = 3) : ∃ j rv, vs = .inr (.inl (c, j, 0)) :: rv ∧ j < z_ni c := by
  cases vs with
  | nil => unfold z_chk at h; split at h <;> simp_all
  | cons v vs =>
    rcases ht with ⟨rfl, hi⟩ | rfl
    · rcases v with x | ⟨c', i', k'⟩ | x
      · cases h
      · simp only [z_chk, Bool.and_eq_true] at h
        obtain ⟨⟨⟨h1, h2⟩, h3⟩, -⟩ := h
        have e1 := Nat.eq_of_beq_eq_true h1
        have e2 := Nat.eq_of_beq_eq_true h2
        have e3 := Nat.eq_of_beq_eq_true h3
        subst e1; subst e2; subst e3
        exact ⟨_, _, rfl, hi⟩
      · cases h
    · rcases v with x | ⟨c', i', k'⟩ | x
      · cases h
      · simp only [z_chk, Bool.and_eq_true] at h
        obtain ⟨⟨⟨h1, h2⟩, h3⟩, -⟩ := h
        have e1 := Nat.eq_of_beq_eq_true h1
        have e3 := Nat.eq_of_beq_eq_true h3
        subst e1; subst e3
        exact ⟨_, _, rfl, Nat.blt_eq.mp h2⟩
      · cases h
/-- a method's function: the run from its entry -/
def z_fn (sh : List (Nat × Nat × Nat × Nat)) (M : zMI) (cd : zCD) (cut : List (Nat × List Nat)) (b : Nat × Nat) (vs : List zVV) (g : zSG) : Option zRR := bif z_chk sh vs then z_run M cd cut 100000 0 (z_args 0 vs) g b else none
theorem z_fn_chk {sh : List (Nat × Nat × Nat × Nat)} {M : zMI} {cd : zCD} {cut : List (Nat × List Nat)} {b : Nat × Nat} {vs : List zVV} {g : zSG} {r : zRR} (h : z_fn sh M cd cut b vs g = some r) : z_chk sh vs = true ∧ z_run M cd cut 100000 0 (z_args 0 vs) g b = some r := z_cnd h
theorem z_fl_all {own : String} {L : List (Nat × (Nat × Nat))} (h : L.all (fun q => z_flb own q.1 q.2.1 q.2.2) = true) : ∀ j c kf, z_look L j = some (c, kf) → z_flb own j c kf = true := fun j c kf hl => List.all_eq_true.mp h (j, (c, kf)) (z_look_mem hl)
theorem z_cs_all {own : String} {L : List (Nat × zVV)} (h : L.all (fun q => z_csb own q.1 q.2) = true) : ∀ j v, z_look L j = some v → z_csb own j v = true := fun j v hl => List.all_eq_true.mp h (j, v) (z_look_mem hl)
def z_kd (vl : List Nat) (cd : zCD) : Bool := cd.all fun q => match q.2.1 with
  | .invokevirtual j => vl.contains j
  | .invokestatic j => !vl.contains j
  | _ => true
theorem z_hcal {l : Launch} {rm : Room} {own : String} {nL : Nat} {cd : zCD} {L : List (Nat × zCI)} {vl : List Nat} (hv : z_kd vl cd = true) (h : ∀ q ∈ L, zCalOK l rm own nL q.1 (if vl.contains q.1 then .invokevirtual q.1 else .invokestatic q.1) q.2) : ∀ j ci, z_look L j = some ci → ∀ pc i nx tg, z_look cd pc = some (i, nx, tg) → (i = .invokevirtual j ∨ i = .invokestatic j) → zCalOK l rm own nL j i ci := by
  intro j ci hj pc i nx tg hl hi
  have h1 := h (j, ci) (z_look_mem hj)
  unfold z_kd at hv
  have h2 := List.all_eq_true.mp hv (pc, i, nx, tg) (z_look_mem hl)
  rcases hi with rfl | rfl
  · have h3 : vl.contains j = true := h2
    simp only [h3, if_true] at h1
    exact h1
  · have h3 : (!vl.contains j) = true := h2
    have h4 : vl.contains j = false := by simpa using h3
    simp only [h4, Bool.false_eq_true, if_false] at h1
    exact h1
theorem z_nothr {l : Launch} {rm : Room} {own : String} {nL : Nat} {cc : ByteArray} {cd : zCD} : ∀ pc j nx tg x, z_look cd pc = some (.new j, nx, tg) → z_look ([] : List (Nat × Nat)) j = some x → zThrOK l rm own nL cc pc x := fun pc j nx tg x _ h => by cases h
/-- the contract of a printed method -/
theorem z_ct {l : Launch} {y : MethodName} {cc : ByteArray} {nL : Nat} {ret : Option FieldType} {d mc ms : Nat} {own : String} {M : zMI} {cd : zCD} {cut : List (Nat × List Nat)} {sh : List (Nat × Nat × Nat × Nat)} (hy : plainName y.cls = true) (hown : y.cls = own) (hnL : M.2.2.2.2.1 = nL) (hrt : z_rt M.2.2.2.2.2 ret) (hfl : ∀ j c kf, M.1 j = some (c, kf) → z_flb own j c kf = true) (hcs : ∀ j v, M.2.2.1 j = some v → z_csb own j v = true) (hcd : z_okc cc cd = true)
    (hthr : ∀ pc j nx tg x, z_look cd pc = some (.new j, nx, tg) → M.2.2.2.1 j = some x → zThrOK l (zrm d mc ms) own nL cc pc x) (hcal : ∀ j ci, M.2.1 j = some ci → ∀ pc i nx tg, z_look cd pc = some (i, nx, tg) → (i = .invokevirtual j ∨ i = .invokestatic j) → zCalOK l (zrm d mc ms) own nL j i ci)
    (hw : z_wd sh ≤ nL) : zCt l y cc nL ret (zrm d mc ms) (z_fn sh M cd cut (mc, ms)) :=
  z_met hy hown hnL hrt hfl hcs hcd hthr hcal (fun ad vs g r h => Nat.le_trans (z_chk_len sh vs (z_fn_chk h).1) hw) (fun vs g r h => ⟨100000, (z_fn_chk h).2⟩)
theorem z_none {l : Launch} {y : MethodName} {cc : ByteArray} {nL : Nat} {ret : Option FieldType} {rm : Room} {F : List zVV → zSG → Option zRR} (h : ∀ vs g, F vs g = none) : zCt l y cc nL ret rm F := fun D ca ad A g vs r hr => by rw [h] at hr; cases hr
theorem z_room {d d' mc ms mc' ms' L : Nat} (h : d' + 1 ≤ d) (hL : L ≤ 21) : (zrm d' mc' ms').frames + 1 ≤ (zrm d mc ms).frames ∧ 8 + (L + 11) + (zrm d' mc' ms').locals ≤ (zrm d mc ms).locals := ⟨h, by show 8 + (L + 11) + 40 * d' ≤ 40 * d; omega⟩
