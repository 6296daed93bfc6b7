/-! ===== throws ===== -/
def zUp : List String := ["java/lang/RuntimeException", "java/lang/Exception"]
def zBad : List Cond := zDecl.map Cond.declares ++ zCast.map (fun q => Cond.castable q.1 q.2)
theorem zBad_ok {D : va_G} {ca : Nat → ClassId} {ad : zAD} {A : Nat → Prop} {g : zSG} {args : Array Value} {s : State} {H : Heap} (hE : zEv D ca ad A g s H) : ∀ w ∈ zBad, w.before args s = true := by
  obtain ⟨-, -, -, -, -, -, -, -, -, h10, h11⟩ := hE
  intro w hw
  unfold zBad at hw
  rcases List.mem_append.mp hw with h | h
  · obtain ⟨x, hx, rfl⟩ := List.mem_map.mp h
    exact (h10 x hx).use rfl
  · obtain ⟨q, hq, rfl⟩ := List.mem_map.mp h
    exact (h11 q hq).use rfl
def z_thb (cls : String) (ik ic : Nat) : Bool :=
  decide (Cond.classLink RX4 ik cls ∈ zWS) && decide (Cond.initialized cls ∈ zWS) && ((vx_atS RX4 ic cls zUp).filter goodWord).all (fun w => decide (w ∈ zWS)) && ((vx_atS RX4 ic cls zUp).filter (fun w => !goodWord w)).all (fun w => decide (w ∈ zBad)) &&
  (Cond.classLink RX4 ik cls :: Cond.initialized cls :: vx_atS RX4 ic cls zUp).all vx_ot && Bundle.fit cls && zUp.all Bundle.fit
theorem z_thb0 : z_thb "java/lang/IllegalArgumentException" 73 77 = true := by decide +kernel
theorem z_thb1 : z_thb "java/lang/IndexOutOfBoundsException" 101 105 = true := by decide +kernel
def z_thd (cc : ByteArray) (pc ik is ic : Nat) : Bool := decide (decode cc pc = .ok (.new ik, 3)) && decide (decode cc (pc + 3) = .ok (.dup, 1)) && decide (decode cc (pc + 4) = .ok (.ldc is, 2)) && decide (decode cc (pc + 6) = .ok (.invokespecial ic, 3)) && decide (decode cc (pc + 9) = .ok (.athrow, 1))
theorem z_throw {l : Launch} (hl : l.stackTraces = false) {R : Room} {nL pc x ik is ic : Nat} {cc : ByteArray} {text : String} (hb0 : z_thb (zEx x) ik ic = true) (hd : z_thd cc pc ik is ic = true) (hm : (is, text) ∈ zMsg) (hf : 6 ≤ R.frames) (hlo : 100 ≤ R.locals) : zThrOK l R RX4 nL cc pc x := by
  intro p e s m args below meth c D ca ad A g0 Cx
  obtain ⟨hx, hb, hml, hown, hts, hK, hA, hE, hlocks, hex⟩ := Cx
  intro lc st g b h1 h6 hwt H locs cells slots ls hP hS hls c1 c2 h5
  simp only [z_thb, Bool.and_eq_true, decide_eq_true_eq] at hb0
  obtain ⟨⟨⟨⟨⟨⟨w1, w2⟩, w3⟩, w4⟩, w5⟩, w6⟩, w7⟩ := hb0
  simp only [z_thd, Bool.and_eq_true, decide_eq_true_eq] at hd
  obtain ⟨⟨⟨⟨d0, d3⟩, d4⟩, d6⟩, d9⟩ := hd
  have hE' := hE
  obtain ⟨-, -, eU, eN, eM, -⟩ := hE
  obtain ⟨sa, hsa⟩ := eM _ hm
  have hat : ∀ w ∈ vx_atS RX4 ic (zEx x) zUp, w.before args s = true := vx_hat (fun w hw => hts w (of_decide_eq_true (List.all_eq_true.mp w3 w hw))) (fun w hw => of_decide_eq_true (List.all_eq_true.mp w4 w hw)) (zBad_ok hE')
  refine vx_throwS hx hb hl (own := RX4) (cls := zEx x) (names := zUp) hown w6 (fun n hn => List.all_eq_true.mp w7 n hn) (hts _ w1) (hts _ w2) hsa hat (fun w hw => List.all_eq_true.mp w5 w hw) eU eN hS (by rw [hls.1, hml]) d0 d3 d4 d6 d9 (fun y hy => absurd (hex y hy) id) (by show 2 + 3 < R.frames; omega) (by show _ + (13 * 3 + 43) ≤ R.locals; rw [z_wt_sum]; omega) (by omega) (by omega) hlocks (fun t hal hz hq => ⟨⟨x, rfl, rfl, ⟨hP.1.kept (fun k q hk => hq _ ((hP.1 k q hk).lt)), hP.2⟩, h5⟩, ⟨Nat.le_trans hS.1 hz, fun q h1 h2 => ?_⟩⟩) hS.2.2 (by omega) (by omega)
  rw [hq q (Nat.lt_of_lt_of_le h1 hS.1)]
  exact hS.2.1 q h1 h2
/-- the places of a method where it throws -/
def z_ns (sites : List (Nat × Nat)) (cd : zCD) : Bool := cd.all fun q => match q.2.1 with
  | .new j => sites.contains (q.1, j)
  | _ => true
theorem z_hthr {l : Launch} {R : Room} {own : String} {nL : Nat} {cc : ByteArray} {cd : zCD} {th : List (Nat × Nat)} {sites : List (Nat × Nat)} (hs : z_ns sites cd = true) (h : ∀ q ∈ sites, ∀ x, z_look th q.2 = some x → zThrOK l R own nL cc q.1 x) : ∀ pc j nx tg x, z_look cd pc = some (.new j, nx, tg) → z_look th j = some x → zThrOK l R own nL cc pc x := by
  intro pc j nx tg x hl hj
  unfold z_ns at hs
  have h1 := List.all_eq_true.mp hs (pc, .new j, nx, tg) (z_look_mem hl)
  have h2 : sites.contains (pc, j) = true := h1
  exact h (pc, j) (List.contains_iff_mem.mp h2) x hj
