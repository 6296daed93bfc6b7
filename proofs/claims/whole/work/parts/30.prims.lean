/-! ===== calls of the JDK's own ===== -/
def zF_max : List zVV → zSG → Option zRR
  | [.inl x, .inl y], g => some (.inl (some (.inl (if x < y then y else x))), g)
  | _, _ => none
def zF_min : List zVV → zSG → Option zRR
  | [.inl x, .inl y], g => some (.inl (some (.inl (if y < x then y else x))), g)
  | _, _ => none
theorem z_calMax {l : Launch} {R : Room} {own : String} {nL j : Nat} (hw : (decide (Cond.methodLink own j Lib.Math.max.name ∈ zWS) && decide (Cond.static Lib.Math.max.name ∈ zWS) && decide (Cond.initialized "java/lang/Math" ∈ zWS) && decide (Cond.code Lib.Math.max.name Lib.Math.max.code 2 (some .int) ∈ zWS)) = true) (hf : 1 ≤ R.frames) (hlo : 21 ≤ R.locals) : zCalOK l R own nL j (.invokestatic j) (zF_max, 2, 1, 0, 0) := by
  intro p e s m args below meth c cc D ca ad A g0 pc Cx hdec
  obtain ⟨hx, hb, hml, hown, hts, hK, hA, hE, hlocks, hex⟩ := Cx
  simp only [Bool.and_eq_true, decide_eq_true_eq] at hw
  obtain ⟨⟨⟨w1, w2⟩, w3⟩, w4⟩ := hw
  intro lc st g b r' r a1 a2 a3 a4 hF hk hxx H locs cells slots ls hP hS hl c1 c2 h5
  dsimp only at a1 a2 a3 a4 hF hk
  rcases st with _ | ⟨v, _ | ⟨w, st⟩⟩
  · simp at a1
  · simp at a1
  · rcases v with y | q | y
    · rcases w with x | q | x
      · have er : r' = (.inl (some (.inl (if x < y then y else x))), g) := (Option.some.inj hF).symm
        subst er
        have a4' : z_wt st ≤ 8 := a4
        refine va_mmax hx hb (by rw [hml, hl.1]) hown (hts _ w1) (hts _ w2) (hts _ w3) (hts _ w4) hf (by rw [z_wt_sum]; omega) (by omega) (by omega) hdec ?_
        exact hk _ rfl H locs cells slots ls hP hS hl (by dsimp only; omega) (by dsimp only; omega) h5
      · cases hF
      · cases hF
    · rcases w with x | q | x <;> cases hF
    · rcases w with x | q | x <;> cases hF
theorem z_calMin {l : Launch} {R : Room} {own : String} {nL j : Nat} (hw : (decide (Cond.methodLink own j Lib.Math.min.name ∈ zWS) && decide (Cond.static Lib.Math.min.name ∈ zWS) && decide (Cond.initialized "java/lang/Math" ∈ zWS) && decide (Cond.code Lib.Math.min.name Lib.Math.min.code 2 (some .int) ∈ zWS)) = true) (hf : 1 ≤ R.frames) (hlo : 21 ≤ R.locals) : zCalOK l R own nL j (.invokestatic j) (zF_min, 2, 1, 0, 0) := by
  intro p e s m args below meth c cc D ca ad A g0 pc Cx hdec
  obtain ⟨hx, hb, hml, hown, hts, hK, hA, hE, hlocks, hex⟩ := Cx
  simp only [Bool.and_eq_true, decide_eq_true_eq] at hw
  obtain ⟨⟨⟨w1, w2⟩, w3⟩, w4⟩ := hw
  intro lc st g b r' r a1 a2 a3 a4 hF hk hxx H locs cells slots ls hP hS hl c1 c2 h5
  dsimp only at a1 a2 a3 a4 hF hk
  rcases st with _ | ⟨v, _ | ⟨w, st⟩⟩
  · simp at a1
  · simp at a1
  · rcases v with y | q | y
    · rcases w with x | q | x
      · have er : r' = (.inl (some (.inl (if y < x then y else x))), g) := (Option.some.inj hF).symm
        subst er
        have a4' : z_wt st ≤ 8 := a4
        refine va_mmin hx hb (by rw [hml, hl.1]) hown (hts _ w1) (hts _ w2) (hts _ w3) (hts _ w4) hf (by rw [z_wt_sum]; omega) (by omega) (by omega) hdec ?_
        exact hk _ rfl H locs cells slots ls hP hS hl (by dsimp only; omega) (by dsimp only; omega) h5
      · cases hF
      · cases hF
    · rcases w with x | q | x <;> cases hF
    · rcases w with x | q | x <;> cases hF
/-- System.arraycopy of ints -/
def zF_acp (vs : List zVV) (g : zSG) : Option zRR := match vs with
  | [.inr (.inl (c1, i1, f1)), .inl sp, .inr (.inl (c2, i2, f2)), .inl dp, .inl n] =>
    bif Nat.blt c1 5 && Nat.blt c2 5 && Nat.blt 0 f1 && Nat.blt 0 f2 && Nat.beq (z_ak c1 (f1 - 1)).1 0 && Nat.beq (z_ak c2 (f2 - 1)).1 0 then
      (if i1 < z_ni c1 ∧ i2 < z_ni c2 ∧ ¬ sp < 0 ∧ ¬ dp < 0 ∧ ¬ n < 0 ∧ sp.toNatClampNeg + n.toNatClampNeg ≤ z_alen g c1 i1 (f1 - 1) ∧ dp.toNatClampNeg + n.toNatClampNeg ≤ z_alen g c2 i2 (f2 - 1) then
        some (.inl none, z_gA g c2 i2 (f2 - 1) (va_cpy ((g c1 i1).2 (f1 - 1)) ((g c2 i2).2 (f2 - 1)) sp.toNatClampNeg dp.toNatClampNeg n.toNatClampNeg))
      else none)
    else none
  | _ => none
theorem z_take5 {st : List zVV} {a b c d e : zVV} (h : (st.take 5).reverse = [a, b, c, d, e]) : st = e :: d :: c :: b :: a :: st.drop 5 := by
  have h1 := congrArg List.reverse h
  rw [List.reverse_reverse] at h1
  conv => lhs; rw [← List.take_append_drop 5 st, h1]
  rfl
theorem z_calAcp {l : Launch} {R : Room} {own : String} {nL j : Nat} (hw : (decide (Cond.methodLink own j arraycopyName ∈ zWS) && decide (Cond.native arraycopyName ∈ zWS) && decide (Cond.static arraycopyName ∈ zWS) && decide (Cond.initialized "java/lang/System" ∈ zWS)) = true) (hf : 1 ≤ R.frames) (hlo : 8 + (nativeFrameWords "java/lang/System" "arraycopy" 5 + 11) ≤ R.locals) : zCalOK l R own nL j (.invokestatic j) (zF_acp, 5, 0, 0, 0) := by
  intro p e s m args below meth c cc D ca ad A g0 pc Cx hdec
  obtain ⟨hx, hb, hml, hown, hts, hK, hA, hE, hlocks, hex⟩ := Cx
  simp only [Bool.and_eq_true, decide_eq_true_eq] at hw
  obtain ⟨⟨⟨w1, w2⟩, w3⟩, w4⟩ := hw
  intro lc st g b r' r a1 a2 a3 a4 hF hk hxx H locs cells slots ls hP hS hl c1 c2 h5
  dsimp only at a1 a2 a3 a4 hF hk
  unfold zF_acp at hF
  split at hF
  · rename_i k1 i1 f1 sp k2 i2 f2 dp n hv
    obtain ⟨h0, hF⟩ := z_cnd hF
    obtain ⟨h7, hF⟩ := z_ift hF
    simp only [Bool.and_eq_true] at h0
    obtain ⟨⟨⟨⟨⟨b1, b2⟩, b3⟩, b4⟩, b5⟩, b6⟩ := h0
    have b1 := Nat.blt_eq.mp b1
    have b2 := Nat.blt_eq.mp b2
    have b3 := Nat.blt_eq.mp b3
    have b4 := Nat.blt_eq.mp b4
    have b5 := Nat.eq_of_beq_eq_true b5
    have b6 := Nat.eq_of_beq_eq_true b6
    obtain ⟨m1, m2, m3, m4, m5, m6, m7⟩ := h7
    obtain ⟨f1, rfl⟩ : ∃ z, f1 = z + 1 := ⟨f1 - 1, by omega⟩
    obtain ⟨f2, rfl⟩ : ∃ z, f2 = z + 1 := ⟨f2 - 1, by omega⟩
    rw [Nat.add_sub_cancel] at b5 b6 m6 m7
    rw [Nat.add_sub_cancel] at hF
    rw [Nat.add_sub_cancel] at hF
    have er := (Option.some.inj hF).symm
    subst er
    have hst := z_take5 hv
    obtain ⟨q0, e1, e2⟩ := z_wlget (ad := ad) (ca := ca) (g := g) (zWI_arr k1 b1 i1 m1 f1 (z_ak_lt (by omega) (by rw [b5]; decide)) (by rw [b5]; decide))
    obtain ⟨q1, e3, e4⟩ := z_wlget (ad := ad) (ca := ca) (g := g) (zWI_arr k2 b2 i2 m2 f2 (z_ak_lt (by omega) (by rw [b6]; decide)) (by rw [b6]; decide))
    rw [z_cell_int b5] at e2
    rw [z_cell_int b6] at e4
    have a4' : z_wt (st.drop 5) ≤ 8 := a4
    rw [hst]
    refine va_copyi hx hb (by rw [hml, hl.1]) hown (hts _ w1) (hts _ w2) (hts _ w3) (hts _ w4) hK hP.1 hP.2 hS q0 q1 0 0 e2 e4 rfl rfl rfl m3 m4 m5 m6 m7 (fun i _ => rfl) hf (by rw [z_wt_sum]; omega) hdec (fun H1 locs1 hP1 hD1 hS1 => ?_)
    have hset : (z_wl ad ca g).set q1 (z_aq ad (k2, i2, f2 + 1), .inl (ca 0, z_alen g k2 i2 f2, .inl (va_cpy ((g k1 i1).2 f1) ((g k2 i2).2 f2) sp.toNatClampNeg dp.toNatClampNeg n.toNatClampNeg))) = z_wl ad ca (z_gA g k2 i2 f2 (va_cpy ((g k1 i1).2 f1) ((g k2 i2).2 f2) sp.toNatClampNeg dp.toNatClampNeg n.toNatClampNeg)) := by
      refine z_wlset e3 ?_ (fun q' hq' => z_cell_gA b2 hq')
      rw [z_cell_int b6, z_alen_eq (z_gA_5 b2), z_gA_self]
    rw [hset] at hP1 hD1
    exact hk _ rfl H1 locs1 cells slots ls ⟨hP1, hD1⟩ hS1 hl (by dsimp only; omega) (by dsimp only; omega) ((z_gA_5 b2).trans h5)
  · cases hF
