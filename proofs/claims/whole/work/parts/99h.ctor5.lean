/-! ===== constructors: the reference ===== -/
def zn_cd (f : Nat → Nat) : Nat → Value
  | 0 => .null
  | 1 => .int 0
  | k + 2 => .ref (f k)
def zn_fsC : List zNE → List Nat → List Nat → List Nat
  | (_, _, _, k, _) :: r, i :: is, cs => zn_fsC r is (cs.set k (i + 2))
  | _, _, cs => cs
theorem zn_fsC_map (f : Nat → Nat) : ∀ (L : List zNE) (is cs : List Nat), zn_fs L (is.map f) (cs.map (zn_cd f)) = (zn_fsC L is cs).map (zn_cd f)
  | [], is, cs => by cases is <;> rfl
  | _ :: _, [], cs => rfl
  | (a, b, c, k, j) :: r, i :: is, cs => by
    have h := zn_fsC_map f r is (cs.set k (i + 2))
    rw [List.map_set] at h
    exact h
def zc5D : List Nat := [1, 1, 1, 1, 1, 1, 1, 1, 1, 0, 0, 0, 0, 0, 0, 0, 1, 0, 0, 0, 0, 0, 0, 0, 0, 0, 0, 0, 0, 0, 0, 0, 0, 0, 0, 1, 1, 1, 1, 0, 0, 0, 0, 1, 1, 1, 1]
def zc5R : List Nat := [1, 1, 1, 1, 1, 1, 1, 1, 1, 2, 3, 4, 5, 6, 7, 8, 1, 9, 10, 11, 12, 13, 14, 15, 16, 17, 18, 19, 20, 21, 22, 23, 24, 25, 26, 1, 1, 1, 1, 27, 28, 29, 30, 1, 1, 1, 1]
def zc5P : List Nat := [0, 0, 0, 0, 0, 0, 0, 0, 0, 0, 1, 2, 3, 4, 5, 6, 0, 7, 8, 9, 10, 11, 12, 13, 14, 15, 16, 17, 18, 19, 20, 21, 22, 23, 24, 0, 0, 0, 0, 25, 26, 27, 28]
theorem zc5_ok : zn_fsC zNL5 (List.range 29) zc5D = zc5R := by decide +kernel
set_option maxRecDepth 100000 in
theorem zc5_D (f : Nat → Nat) : zDf 3 = zc5D.map (zn_cd f) := rfl
set_option maxRecDepth 100000 in
theorem zc5_R (f : Nat → Nat) (h0 : Nat) : (List.range (z_nf 3)).map (z_fval (fun c' _ k => bif Nat.beq c' 9 then zn_a zc5P h0 f 9 else zn_a zc5P h0 f k) zGZ 3 0) = zc5R.map (zn_cd f) := rfl
theorem zc5_F (f : Nat → Nat) (h0 : Nat) : zn_fs zNL5 ((List.range 29).map f) (zDf 3) = (List.range (z_nf 3)).map (z_fval (fun c' _ k => bif Nat.beq c' 9 then zn_a zc5P h0 f 9 else zn_a zc5P h0 f k) zGZ 3 0) := by
  rw [zc5_D f, zn_fsC_map, zc5_ok, zc5_R]
set_option maxRecDepth 100000 in
theorem zc5_W (ca : Nat → ClassId) (f : Nat → Nat) (h0 : Nat) : zn_W ca 3 zNL5 h0 f = zOb ca 3 (zn_a zc5P h0 f) := by
  unfold zn_W
  rw [show zNL5.length = 29 from rfl, zc5_F f h0]
  generalize hX : (List.range (z_nf 3)).map (z_fval (fun c' _ k => bif Nat.beq c' 9 then zn_a zc5P h0 f 9 else zn_a zc5P h0 f k) zGZ 3 0) = X
  have e : zOb ca 3 (zn_a zc5P h0 f) = (h0, .inr (3, (List.range (z_nf 3)).map (z_fval (fun c' _ k => bif Nat.beq c' 9 then zn_a zc5P h0 f 9 else zn_a zc5P h0 f k) zGZ 3 0))) :: zn_ar ca zNL5 ((List.range 29).map f) := rfl
  rw [e, hX]
theorem zi_X5 (l : Launch) (D : va_G) (ca : Nat → ClassId) (A : Nat → Prop) (h0 : Nat) : Met l yX5_init (.code yX5_init cX5_init 1 none :: zWS) (zrm 1 29 10748) (va_Pc [.ref h0] (zPi D ca A 3 h0)) (va_Qv (fun a : Nat → Nat => a 0 = h0) (fun a t => va_P D zCL (zOb ca 3 a) t.heap ∧ va_D A (zOb ca 3 a)) A) 29 10748 A := by
  refine zi_ct (own := RX5) (ci := 3) (j0 := 7) (L := zNL5) (ps := zc5P) (is := [0, 1, 2, 3, 4, 5, 6, 7, 8, 9, 10, 11, 12, 13, 14, 15, 16, 17, 18, 19, 20, 21, 22, 23, 24, 25, 26, 27, 28, 29]) (by decide +kernel) rfl rfl (by decide +kernel) (by decide +kernel) (by decide +kernel) (by decide) (by decide) D ca A h0 (fun f => ?_) (fun f => ?_)
  · rw [zc5_W]
    rfl
  · rw [zc5_W]
    rfl
