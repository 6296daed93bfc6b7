/-! ===== the pure machine: its state, its values, its tables ===== -/
/-- an object's ints by field, its arrays by field -/
abbrev zLS : Type := (Nat → Int32) × (Nat → Nat → Int32)
/-- kind of object, number, its state -/
abbrev zSG : Type := Nat → Nat → zLS
/-- an int, a reference (kind, number, 0 or field + 1), a long -/
abbrev zVV : Type := Int32 ⊕ ((Nat × Nat × Nat) ⊕ Int64)
abbrev zAD : Type := Nat → Nat → Nat → Nat
abbrev zRR : Type := (Option zVV ⊕ Nat) × zSG
abbrev zLC : Type := List (Nat × zVV)
abbrev zCI : Type := (List zVV → zSG → Option zRR) × Nat × Nat × Nat × Nat
def z_tV (ad : zAD) : zVV → Value
  | .inl x => .int x
  | .inr (.inl q) => .ref (ad q.1 q.2.1 q.2.2)
  | .inr (.inr x) => .long x
def z_isL : zVV → Bool
  | .inr (.inr _) => true
  | _ => false
def z_wt : List zVV → Nat
  | [] => 0
  | v :: r => (bif z_isL v then 2 else 1) + z_wt r
def z_look {α : Type} : List (Nat × α) → Nat → Option α
  | [], _ => none
  | q :: r, i => bif Nat.beq q.1 i then some q.2 else z_look r i
def z_put1 (lc : zLC) (i : Nat) (v : zVV) : zLC := (i, v) :: lc.filter (fun q => !(q.1 == i) && !(q.1 + 1 == i && z_isL q.2))
def z_put2 (lc : zLC) (i : Nat) (v : zVV) : zLC := (i, v) :: lc.filter (fun q => !(q.1 == i) && (!(q.1 == i + 1) && !(q.1 + 1 == i && z_isL q.2)))
def z_keepL (lc : zLC) (live : List Nat) : zLC := live.filterMap (fun i => (z_look lc i).map (fun v => (i, v)))
abbrev z_inb (x : Int32) (n : Nat) : Prop := 0 ≤ x.toInt ∧ x.toInt < (n : Int)
def z_bi (n : Int) : Int32 := (Int8.ofInt n).toInt32
def z_si (n : Int) : Int32 := (Int16.ofInt n).toInt32
def z_gI (g : zSG) (c i k : Nat) (v : Int32) : zSG := va_up g c (va_up (g c) i (upd (g c i).1 k v, (g c i).2))
def z_gA (g : zSG) (c i k : Nat) (f : Nat → Int32) : zSG := va_up g c (va_up (g c) i ((g c i).1, va_up (g c i).2 k f))
def z_fkL0 : List (Nat × Nat) := [(1, 0), (1, 0), (1, 0), (1, 0), (1, 0), (2, 1), (2, 2), (1, 0), (1, 0), (1, 0), (0, 0), (0, 1), (0, 0)]
def z_fkL1 : List (Nat × Nat) := [(1, 0), (3, 0), (0, 0), (0, 0), (0, 0), (0, 0)]
def z_fkL2 : List (Nat × Nat) := [(1, 0), (1, 0), (1, 0), (1, 0), (1, 0), (1, 0), (1, 0), (0, 0)]
def z_fkL3 : List (Nat × Nat) := [(0, 0), (0, 0), (0, 0), (0, 0), (0, 0), (0, 0), (0, 0), (0, 0), (0, 0), (1, 0), (1, 0), (1, 0), (1, 0), (1, 0), (1, 0), (1, 0), (0, 0), (1, 0), (1, 0), (1, 0), (1, 0), (1, 0), (1, 0), (1, 0), (1, 0), (1, 0), (1, 0), (1, 0), (1, 0), (1, 0), (1, 0), (1, 0), (1, 0), (1, 0), (1, 0), (0, 0), (0, 0), (0, 0), (0, 0), (1, 0), (1, 0), (1, 0), (1, 0), (0, 0), (0, 0), (0, 0), (0, 0)]
def z_fkL4 : List (Nat × Nat) := [(1, 0), (1, 0), (1, 0), (1, 0), (1, 0), (1, 0), (1, 0), (1, 0), (0, 0), (1, 0), (1, 0), (1, 0), (0, 0), (0, 0), (0, 0), (0, 0), (0, 0), (0, 0)]
def z_fkL5 : List (Nat × Nat) := [(1, 0), (0, 0)]
def z_fk (c k : Nat) : Nat × Nat := match c with
  | 0 => z_fkL0.getD k (9, 9)
  | 1 => z_fkL1.getD k (9, 9)
  | 2 => z_fkL2.getD k (9, 9)
  | 3 => z_fkL3.getD k (9, 9)
  | 4 => z_fkL4.getD k (9, 9)
  | _ => z_fkL5.getD k (9, 9)
def z_akL0 : List (Nat × Nat) := [(0, 400), (0, 8), (0, 16), (1, 32), (3, 8), (9, 0), (9, 0), (2, 2), (2, 2), (0, 30), (9, 0), (9, 0), (9, 0)]
def z_akL1 : List (Nat × Nat) := [(0, 400), (9, 0), (9, 0), (9, 0), (9, 0), (9, 0)]
def z_akL2 : List (Nat × Nat) := [(0, 30), (0, 30), (0, 30), (0, 30), (0, 30), (0, 30), (0, 30), (9, 0)]
def z_akL3 : List (Nat × Nat) := [(9, 0), (9, 0), (9, 0), (9, 0), (9, 0), (9, 0), (9, 0), (9, 0), (9, 0), (0, 400), (0, 500), (0, 500), (0, 4000), (0, 4000), (0, 8), (0, 8), (9, 0), (0, 8), (0, 16), (0, 30), (0, 30), (0, 30), (0, 30), (0, 30), (0, 30), (0, 30), (0, 30), (0, 240), (0, 30), (0, 30), (0, 30), (0, 8), (0, 128), (1, 240), (1, 30), (9, 0), (9, 0), (9, 0), (9, 0), (1, 32), (0, 30), (0, 240), (0, 30), (9, 0), (9, 0), (9, 0), (9, 0)]
def z_akL4 : List (Nat × Nat) := [(0, 8), (0, 240), (0, 30), (0, 30), (0, 30), (0, 30), (1, 30), (0, 4), (9, 0), (0, 16), (0, 8), (0, 32), (9, 0), (9, 0), (9, 0), (9, 0), (9, 0), (9, 0)]
def z_akL5 : List (Nat × Nat) := [(0, 0), (9, 0)]
def z_ak (c k : Nat) : Nat × Nat := match c with
  | 0 => z_akL0.getD k (9, 0)
  | 1 => z_akL1.getD k (9, 0)
  | 2 => z_akL2.getD k (9, 0)
  | 3 => z_akL3.getD k (9, 0)
  | 4 => z_akL4.getD k (9, 0)
  | _ => z_akL5.getD k (9, 0)
def z_nf (c : Nat) : Nat := match c with
  | 0 => 13
  | 1 => 6
  | 2 => 8
  | 3 => 47
  | 4 => 18
  | _ => 2
def z_ni (c : Nat) : Nat := match c with
  | 0 => 1
  | 1 => 1
  | 2 => 1
  | 3 => 1
  | 4 => 4
  | _ => 8
def zWI : List (Nat × Nat × Nat) := [(0, 0, 0), (0, 0, 1), (0, 0, 2), (0, 0, 3), (0, 0, 4), (0, 0, 5), (0, 0, 8), (0, 0, 9), (0, 0, 10), (1, 0, 0), (1, 0, 1), (2, 0, 0), (2, 0, 1), (2, 0, 2), (2, 0, 3), (2, 0, 4), (2, 0, 5), (2, 0, 6), (2, 0, 7), (3, 0, 0), (3, 0, 10), (3, 0, 11), (3, 0, 12), (3, 0, 13), (3, 0, 14), (3, 0, 15), (3, 0, 16), (3, 0, 18), (3, 0, 19), (3, 0, 20), (3, 0, 21), (3, 0, 22), (3, 0, 23), (3, 0, 24), (3, 0, 25), (3, 0, 26), (3, 0, 27), (3, 0, 28), (3, 0, 29), (3, 0, 30), (3, 0, 31), (3, 0, 32), (3, 0, 33), (3, 0, 34), (3, 0, 35), (3, 0, 40), (3, 0, 41), (3, 0, 42), (3, 0, 43), (4, 0, 0), (4, 0, 1), (4, 0, 2), (4, 0, 3), (4, 0, 4), (4, 0, 5), (4, 0, 6), (4, 0, 7), (4, 0, 8), (4, 0, 10), (4, 0, 11), (4, 0, 12), (4, 1, 0), (4, 1, 1), (4, 1, 2), (4, 1, 3), (4, 1, 4), (4, 1, 5), (4, 1, 6), (4, 1, 7), (4, 1, 8), (4, 1, 10), (4, 1, 11), (4, 1, 12), (4, 2, 0), (4, 2, 1), (4, 2, 2), (4, 2, 3), (4, 2, 4), (4, 2, 5), (4, 2, 6), (4, 2, 7), (4, 2, 8), (4, 2, 10), (4, 2, 11), (4, 2, 12), (4, 3, 0), (4, 3, 1), (4, 3, 2), (4, 3, 3), (4, 3, 4), (4, 3, 5), (4, 3, 6), (4, 3, 7), (4, 3, 8), (4, 3, 10), (4, 3, 11), (4, 3, 12)]
def zSI : List (Nat × Nat × Nat) := [(5, 0, 0), (5, 0, 1), (5, 1, 0), (5, 1, 1), (5, 2, 0), (5, 2, 1), (5, 3, 0), (5, 3, 1), (5, 4, 0), (5, 4, 1), (5, 5, 0), (5, 5, 1), (5, 6, 0), (5, 6, 1), (5, 7, 0), (5, 7, 1)]
def z_alen (g : zSG) (c i k : Nat) : Nat := match c with
  | 5 => ((g 5 i).1 0).toNatClampNeg
  | c => (z_ak c k).2
def z_fval (ad : zAD) (g : zSG) (c i k : Nat) : Value := match z_fk c k with
  | (0, _) => .int ((g c i).1 k)
  | (1, _) => .ref (ad c i (k + 1))
  | (2, d) => .ref (ad d 0 0)
  | (_, _) => .ref (if (g c i).1 k = 1 then ad 0 0 1 else ad 9 0 0)
def z_cell (ad : zAD) (ca : Nat → ClassId) (g : zSG) (q : Nat × Nat × Nat) : va_E := match q with
  | (c, i, 0) => .inr (c, (List.range (z_nf c)).map (z_fval ad g c i))
  | (c, i, k + 1) => match (z_ak c k).1 with
    | 0 => .inl (ca 0, z_alen g c i k, .inl ((g c i).2 k))
    | 1 => .inl (ca 1, z_alen g c i k, .inl ((g c i).2 k))
    | 2 => .inl (ca 2, 2, .inr (.inr (.inr (.inr (fun j => some (ad 4 ((bif Nat.beq k 7 then 0 else 2) + j) 0))))))
    | _ => .inl (ca 3, 8, .inr (.inr (.inr (.inr (fun j => some (ad 5 j 0))))))
abbrev z_aq (ad : zAD) (q : Nat × Nat × Nat) : Nat := ad q.1 q.2.1 q.2.2
def z_wl (ad : zAD) (ca : Nat → ClassId) (g : zSG) : va_W := zWI.map (fun q => (z_aq ad q, z_cell ad ca g q))
def z_sl (ad : zAD) (ca : Nat → ClassId) (g : zSG) : va_W := zSI.map (fun q => (z_aq ad q, z_cell ad ca g q))
def zCL : List vw_C := [(RX4, TX4, 13), (RX1, TX1, 6), (RX0, TX0, 8), (RX5, TX5, 47), (RX2, TX2, 18), (RX3, TX3, 2)]
def zTL (ca : Nat → ClassId) : List (ClassId × FieldType) := [(ca 0, .int), (ca 1, .boolean), (ca 2, .object RX2), (ca 3, .object RX3)]
/-! the steps: k goes on at a place, with variables, stack, state, room left -/
abbrev zKK : Type := Nat → zLC → List zVV → zSG → Nat × Nat → Option zRR
def z_tsw (k : Int → Option zRR) (x : Int) (d : Int) : Int → List Int → Option zRR
  | _, [] => k d
  | lo, o :: r => if x = lo then k o else z_tsw k x d (lo + 1) r
/-- links of fields by the pool's places; calls; constants; throws; the number of variables; what is given back (0 nothing, 1 int, 2 boolean, 3 long) -/
abbrev zMI : Type := (Nat → Option (Nat × Nat)) × (Nat → Option zCI) × (Nat → Option zVV) × (Nat → Option Nat) × Nat × Nat
def z_getF (g : zSG) (c i kf : Nat) (k : zVV → Option zRR) : Option zRR := match z_fk c kf with
  | (0, _) => k (.inl ((g c i).1 kf))
  | (1, _) => k (.inr (.inl (c, i, kf + 1)))
  | (2, d) => k (.inr (.inl (d, 0, 0)))
  | (3, _) => if (g c i).1 kf = 1 then k (.inr (.inl (0, 0, 1))) else none
  | _ => none
def z_putF (g : zSG) (c i kf : Nat) (v : zVV) (k : zSG → Option zRR) : Option zRR := match z_fk c kf with
  | (0, 0) => (match v with
    | .inl x => k (z_gI g c i kf x)
    | _ => none)
  | (0, _) => (match v with
    | .inl x => if x = 0 ∨ x = 1 then k (z_gI g c i kf x) else none
    | _ => none)
  | (3, _) => (match v with
    | .inr (.inl (0, 0, 1)) => k (z_gI g c i kf 1)
    | _ => none)
  | _ => none
def z_bI (o : Option zRR) (k : Int32 → zSG → Option zRR) : Option zRR := match o with
  | some (.inl (some (.inl x)), g) => k x g
  | some (.inr e, g) => some (.inr e, g)
  | _ => none
def z_bL (o : Option zRR) (k : Int64 → zSG → Option zRR) : Option zRR := match o with
  | some (.inl (some (.inr (.inr x))), g) => k x g
  | some (.inr e, g) => some (.inr e, g)
  | _ => none
def z_bV (o : Option zRR) (k : zSG → Option zRR) : Option zRR := match o with
  | some (.inl none, g) => k g
  | some (.inr e, g) => some (.inr e, g)
  | _ => none
def z_cll (k : zKK) (ci : zCI) (nx : Nat) (lc : zLC) (st : List zVV) (g : zSG) (b : Nat × Nat) : Option zRR :=
  bif Nat.ble ci.2.1 st.length && Nat.ble ci.2.2.2.1 b.1 && Nat.ble ci.2.2.2.2 b.2 && Nat.ble (z_wt (st.drop ci.2.1)) 8 then (match ci.2.2.1 with
    | 0 => z_bV (ci.1 (st.take ci.2.1).reverse g) (fun g' => k nx lc (st.drop ci.2.1) g' (b.1 - ci.2.2.2.1, b.2 - ci.2.2.2.2))
    | 1 => z_bI (ci.1 (st.take ci.2.1).reverse g) (fun x g' => k nx lc (.inl x :: st.drop ci.2.1) g' (b.1 - ci.2.2.2.1, b.2 - ci.2.2.2.2))
    | _ => z_bL (ci.1 (st.take ci.2.1).reverse g) (fun x g' => k nx lc (.inr (.inr x) :: st.drop ci.2.1) g' (b.1 - ci.2.2.2.1, b.2 - ci.2.2.2.2))) else none
def z_stp (M : zMI) (k : zKK) (i : Instr) (nx tg pc : Nat) (lc : zLC) (st : List zVV) (g : zSG) (b : Nat × Nat) : Option zRR :=
  match i with
  | .iconst n => k nx lc (.inl (Int32.ofInt n) :: st) g b
  | .bipush n => k nx lc (.inl (z_bi n) :: st) g b
  | .sipush n => k nx lc (.inl (z_si n) :: st) g b
  | .lconst n => k nx lc (.inr (.inr (Int64.ofNat (n : Nat))) :: st) g b
  | .ldc j => match M.2.2.1 j with
    | some v => bif z_isL v then none else k nx lc (v :: st) g b
    | none => none
  | .ldc_w j => match M.2.2.1 j with
    | some (.inl x) => k nx lc (.inl x :: st) g b
    | _ => none
  | .ldc2_w j => match M.2.2.1 j with
    | some (.inr (.inr x)) => k nx lc (.inr (.inr x) :: st) g b
    | _ => none
  | .iload_n j => match z_look lc j with
    | some (.inl x) => k nx lc (.inl x :: st) g b
    | _ => none
  | .iload j => match z_look lc j with
    | some (.inl x) => k nx lc (.inl x :: st) g b
    | _ => none
  | .aload_n j => match z_look lc j with
    | some (.inr (.inl x)) => k nx lc (.inr (.inl x) :: st) g b
    | _ => none
  | .aload j => match z_look lc j with
    | some (.inr (.inl x)) => k nx lc (.inr (.inl x) :: st) g b
    | _ => none
  | .lload_n j => match z_look lc j with
    | some (.inr (.inr x)) => k nx lc (.inr (.inr x) :: st) g b
    | _ => none
  | .istore_n j => match st with
    | .inl x :: r => bif Nat.blt j M.2.2.2.2.1 then k nx (z_put1 lc j (.inl x)) r g b else none
    | _ => none
  | .istore j => match st with
    | .inl x :: r => bif Nat.blt j M.2.2.2.2.1 then k nx (z_put1 lc j (.inl x)) r g b else none
    | _ => none
  | .astore_n j => match st with
    | .inr (.inl x) :: r => bif Nat.blt j M.2.2.2.2.1 then k nx (z_put1 lc j (.inr (.inl x))) r g b else none
    | _ => none
  | .astore j => match st with
    | .inr (.inl x) :: r => bif Nat.blt j M.2.2.2.2.1 then k nx (z_put1 lc j (.inr (.inl x))) r g b else none
    | _ => none
  | .lstore_n j => match st with
    | .inr (.inr x) :: r => bif Nat.blt (j + 1) M.2.2.2.2.1 then k nx (z_put2 lc j (.inr (.inr x))) r g b else none
    | _ => none
  | .iinc j n => match z_look lc j with
    | some (.inl x) => bif Nat.blt j M.2.2.2.2.1 then k nx (z_put1 lc j (.inl (x + Int32.ofInt n))) st g b else none
    | _ => none
  | .iadd => match st with
    | .inl y :: .inl x :: r => k nx lc (.inl (x + y) :: r) g b
    | _ => none
  | .isub => match st with
    | .inl y :: .inl x :: r => k nx lc (.inl (x - y) :: r) g b
    | _ => none
  | .imul => match st with
    | .inl y :: .inl x :: r => k nx lc (.inl (x * y) :: r) g b
    | _ => none
  | .iand => match st with
    | .inl y :: .inl x :: r => k nx lc (.inl (x &&& y) :: r) g b
    | _ => none
  | .ior => match st with
    | .inl y :: .inl x :: r => k nx lc (.inl (x ||| y) :: r) g b
    | _ => none
  | .ishl => match st with
    | .inl y :: .inl x :: r => k nx lc (.inl (x <<< (y &&& 31)) :: r) g b
    | _ => none
  | .ishr => match st with
    | .inl y :: .inl x :: r => k nx lc (.inl (x >>> (y &&& 31)) :: r) g b
    | _ => none
  | .iushr => match st with
    | .inl y :: .inl x :: r => k nx lc (.inl ((x.toUInt32 >>> (y.toUInt32 &&& Int32.toUInt32 31)).toInt32) :: r) g b
    | _ => none
  | .idiv => match st with
    | .inl y :: .inl x :: r => if y = 0 then none else k nx lc (.inl (x / y) :: r) g b
    | _ => none
  | .irem => match st with
    | .inl y :: .inl x :: r => if y = 0 then none else k nx lc (.inl (x - x / y * y) :: r) g b
    | _ => none
  | .i2l => match st with
    | .inl x :: r => k nx lc (.inr (.inr x.toInt64) :: r) g b
    | _ => none
  | .lor => match st with
    | .inr (.inr y) :: .inr (.inr x) :: r => k nx lc (.inr (.inr (x ||| y)) :: r) g b
    | _ => none
  | .lshl => match st with
    | .inl y :: .inr (.inr x) :: r => k nx lc (.inr (.inr (x <<< (y.toInt64 &&& 63))) :: r) g b
    | _ => none
  | .lcmp => match st with
    | .inr (.inr y) :: .inr (.inr x) :: r => k nx lc (.inl (lg_cmp x y) :: r) g b
    | _ => none
  | .dup => match st with
    | v :: r => bif z_isL v then none else k nx lc (v :: v :: r) g b
    | _ => none
  | .dup2 => match st with
    | v :: w :: r => bif z_isL v || z_isL w then none else k nx lc (v :: w :: v :: w :: r) g b
    | _ => none
  | .pop => match st with
    | v :: r => bif z_isL v then none else k nx lc r g b
    | _ => none
  | .goto _ => k tg lc st g b
  | .ifCond cd _ => match st with
    | .inl x :: r => match cd with
      | .eq => if x = 0 then k tg lc r g b else k nx lc r g b
      | .ne => if x = 0 then k nx lc r g b else k tg lc r g b
      | .lt => if x < 0 then k tg lc r g b else k nx lc r g b
      | .ge => if 0 ≤ x then k tg lc r g b else k nx lc r g b
      | .gt => if 0 < x then k tg lc r g b else k nx lc r g b
      | .le => if x ≤ 0 then k tg lc r g b else k nx lc r g b
    | _ => none
  | .if_icmp cd _ => match st with
    | .inl y :: .inl x :: r => match cd with
      | .eq => if x = y then k tg lc r g b else k nx lc r g b
      | .ne => if x = y then k nx lc r g b else k tg lc r g b
      | .lt => if x < y then k tg lc r g b else k nx lc r g b
      | .ge => if y ≤ x then k tg lc r g b else k nx lc r g b
      | .gt => if y < x then k tg lc r g b else k nx lc r g b
      | .le => if x ≤ y then k tg lc r g b else k nx lc r g b
    | _ => none
  | .tableswitch d lo hi offs => match st with
    | .inl x :: r => bif decide (hi = lo + (offs.toList.length : Int) - 1) && (d :: offs.toList).all (fun o => decide (0 ≤ (pc : Int) + o)) then z_tsw (fun o => k ((pc : Int) + o).toNat lc r g b) x.toInt d lo offs.toList else none
    | _ => none
  | .getfield j => match st with
    | .inr (.inl (c, o, 0)) :: r => match M.1 j with
      | some (c', kf) => bif Nat.beq c c' then (if o < z_ni c then z_getF g c o kf (fun v => k nx lc (v :: r) g b) else none) else none
      | none => none
    | _ => none
  | .putfield j => match st with
    | v :: .inr (.inl (c, o, 0)) :: r => match M.1 j with
      | some (c', kf) => bif Nat.beq c c' && Nat.blt c 5 then (if o < z_ni c then z_putF g c o kf v (fun g' => k nx lc r g' b) else none) else none
      | none => none
    | _ => none
  | .iaload => match st with
    | .inl x :: .inr (.inl (c, o, f + 1)) :: r => bif Nat.beq (z_ak c f).1 0 && Nat.blt c 6 then (if o < z_ni c then (if z_inb x (z_alen g c o f) then k nx lc (.inl ((g c o).2 f x.toNatClampNeg) :: r) g b else none) else none) else none
    | _ => none
  | .baload => match st with
    | .inl x :: .inr (.inl (c, o, f + 1)) :: r => bif Nat.beq (z_ak c f).1 1 && Nat.blt c 5 then (if o < z_ni c then (if z_inb x (z_alen g c o f) then k nx lc (.inl ((g c o).2 f x.toNatClampNeg) :: r) g b else none) else none) else none
    | _ => none
  | .iastore => match st with
    | .inl v :: .inl x :: .inr (.inl (c, o, f + 1)) :: r => bif Nat.beq (z_ak c f).1 0 && Nat.blt c 5 then (if o < z_ni c then (if z_inb x (z_alen g c o f) then k nx lc r (z_gA g c o f (upd ((g c o).2 f) x.toNatClampNeg v)) b else none) else none) else none
    | _ => none
  | .bastore => match st with
    | .inl v :: .inl x :: .inr (.inl (c, o, f + 1)) :: r => bif Nat.beq (z_ak c f).1 1 && Nat.blt c 5 then (if o < z_ni c then (if z_inb x (z_alen g c o f) then k nx lc r (z_gA g c o f (upd ((g c o).2 f) x.toNatClampNeg (v &&& 1))) b else none) else none) else none
    | _ => none
  | .arraylength => match st with
    | .inr (.inl (0, 0, 5)) :: r => k nx lc (.inl (8 : Int32) :: r) g b
    | .inr (.inl (c, o, f + 1)) :: r => bif Nat.blt (z_ak c f).1 2 && Nat.blt c 6 then (if o < z_ni c then k nx lc (.inl (Int32.ofNat (z_alen g c o f)) :: r) g b else none) else none
    | _ => none
  | .aaload => match st with
    | .inl x :: .inr (.inl (0, 0, 5)) :: r => if z_inb x 8 then k nx lc (.inr (.inl (5, x.toNatClampNeg, 0)) :: r) g b else none
    | .inl x :: .inr (.inl (0, 0, 8)) :: r => if z_inb x 2 then k nx lc (.inr (.inl (4, x.toNatClampNeg, 0)) :: r) g b else none
    | .inl x :: .inr (.inl (0, 0, 9)) :: r => if z_inb x 2 then k nx lc (.inr (.inl (4, 2 + x.toNatClampNeg, 0)) :: r) g b else none
    | _ => none
  | .invokevirtual j => match M.2.1 j with
    | some ci => z_cll k ci nx lc st g b
    | none => none
  | .invokestatic j => match M.2.1 j with
    | some ci => z_cll k ci nx lc st g b
    | none => none
  | .new j => match M.2.2.2.1 j with
    | some e => bif Nat.ble 1 b.1 && Nat.ble 6 b.2 && Nat.ble (z_wt st) 8 then some (.inr e, g) else none
    | none => none
  | .ireturn => match st with
    | [.inl x] => match M.2.2.2.2.2 with
      | 1 => some (.inl (some (.inl x)), g)
      | 2 => if x = 0 ∨ x = 1 then some (.inl (some (.inl x)), g) else none
      | _ => none
    | _ => none
  | .lreturn => match st with
    | [.inr (.inr x)] => bif Nat.beq M.2.2.2.2.2 3 then some (.inl (some (.inr (.inr x))), g) else none
    | _ => none
  | .return_ => match st with
    | [] => bif Nat.beq M.2.2.2.2.2 0 then some (.inl none, g) else none
    | _ => none
  | _ => none
/-- code: a row a place: what is done there, the next place, the place gone to -/
abbrev zCD : Type := List (Nat × Instr × Nat × Nat)
abbrev zAG : Type := Nat → zLC → zSG → Nat × Nat → Option zRR
def z_inner (M : zMI) (cd : zCD) (cut : List (Nat × List Nat)) (ag : zAG) : Nat → zKK
  | 0, _, _, _, _, _ => none
  | K + 1, pc, lc, st, g, b => match z_look cd pc with
    | none => none
    | some (i, nx, tg) => z_stp M (fun pc' lc' st' g' b' => match z_look cut pc' with
      | some live => (match st' with
        | [] => ag pc' (z_keepL lc' live) g' b'
        | _ => none)
      | none => z_inner M cd cut ag K pc' lc' st' g' b') i nx tg pc lc st g b
def z_run (M : zMI) (cd : zCD) (cut : List (Nat × List Nat)) : Nat → zAG
  | 0, _, _, _, _ => none
  | n + 1, pc, lc, g, b => z_inner M cd cut (z_run M cd cut n) 2000 pc lc [] g b
