def swTab (k : Nat) : Int := match k with
  | 0 => 1 | 1 => 2 | 2 => 11 | 3 => 3 | 4 => 4 | 5 => 5 | 6 => 6 | 7 => 7 | 8 => 8 | 16 => 9 | 17 => 10 | 18 => 12 | 19 => 13 | 20 => 14 | 21 => 15 | 22 => 16 | _ => 0
def pkTab (k : Nat) : Int64 := match k with
  | 0 => 453774 | 1 => 4562600 | 2 => 6123643853 | 3 => 2481044 | 4 => 1952795 | 5 => 3755273 | 6 => 232546955 | 7 => 375088 | 8 => 355568 | 9 => 326396 | 10 => 350183 | 11 => 583 | 12 => 168984 | 13 => 423 | 14 => 1111 | 15 => 10631 | 16 => 2504979733 | 17 => 11486992 | 18 => 374873 | 19 => 31519426 | 20 => 12532058 | 21 => 3436200 | 22 => 212302449 | _ => 0
abbrev EE : Type := Nat → List Value → Mm → Option Value → Mm → Prop
abbrev JJ : Type := Nat → List Value → List Value → Mm → Prop
/-- null, or a constant of the enum -/
def rE (a : Nat) : Prop := a = 0 ∨ (600 ≤ a ∧ a < 623)
def cmpA (c : Jvm.ClassFile.ACond) (a b : Nat) : Prop := match c with
  | .eq => a = b
  | .ne => ¬ a = b
def ldI (L : List Value) (k : Nat) (K : Value → Prop) : Prop := match L.getD k (.retAddr 0) with
  | .int x => K (.int x)
  | _ => False
def ldL (L : List Value) (k : Nat) (K : Value → Prop) : Prop := match L.getD k (.retAddr 0) with
  | .long x => K (.long x)
  | _ => False
def ldA (L : List Value) (k : Nat) (K : Value → Prop) : Prop := match L.getD k (.retAddr 0) with
  | .ref x => K (.ref x)
  | _ => False
def popI (S : List Value) (K : Int32 → List Value → Prop) : Prop := match S with
  | .int x :: r => K x r
  | _ => False
def popL (S : List Value) (K : Int64 → List Value → Prop) : Prop := match S with
  | .long x :: r => K x r
  | _ => False
def popA (S : List Value) (K : Nat → List Value → Prop) : Prop := match S with
  | .ref x :: r => K x r
  | _ => False
/-- one slot, of the first category -/
def pop1 (S : List Value) (K : Value → List Value → Prop) : Prop := match S with
  | .ref x :: r => K (.ref x) r
  | .int x :: r => K (.int x) r
  | _ => False
/-- nothing -/
def popN (S : List Value) (K : Prop) : Prop := match S with
  | [] => K
  | _ => False
def wpGet (a ci k : Nat) (M : Mm) (K : Value → Prop) : List Nat → Prop
  | 0 :: _ => lay a = ci + 1 ∧ K (.int (M.1 a k))
  | 5 :: _ => lay a = ci + 1 ∧ K (.int (M.1 a k))
  | 1 :: _ => lay a = ci + 1 ∧ K (.long (M.2.1 a k))
  | 2 :: _ => lay a = ci + 1 ∧ K (.ref (M.2.2 a k))
  | 3 :: off :: _ => lay a = ci + 1 ∧ K (.ref (a + off))
  | 4 :: b :: _ => lay a = ci + 1 ∧ K (.ref b)
  | 6 :: _ => (600 ≤ a ∧ a < 623) ∧ K (.long (pkTab (a - 600)))
  | _ => False
def wpPut (S : List Value) (ci k : Nat) (M : Mm) (K : List Value → Mm → Prop) : List Nat → Prop
  | 0 :: _ => popI S fun v r => popA r fun a r => lay a = ci + 1 ∧ K r (sI M a k v)
  | 5 :: _ => popI S fun v r => popA r fun a r => lay a = ci + 1 ∧ (v = I 0 ∨ v = I 1) ∧ K r (sI M a k v)
  | 1 :: _ => popL S fun v r => popA r fun a r => lay a = ci + 1 ∧ K r (sL M a k v)
  | 2 :: _ => popA S fun v r => popA r fun a r => lay a = ci + 1 ∧ K r (sR M a k v)
  | _ => False
def wpInv (E : EE) (y : Nat) (as : List Value) (r : List Value) (M : Mm) (K : List Value → Mm → Prop) : Nat → Prop
  | 0 => ∃ M', E y as M none M' ∧ K r M'
  | 1 => ∃ (v : Int32) (M' : Mm), E y as M (some (.int v)) M' ∧ K (.int v :: r) M'
  | 2 => ∃ (v : Int64) (M' : Mm), E y as M (some (.long v)) M' ∧ K (.long v :: r) M'
  | 3 => ∃ (v : Nat) (M' : Mm), E y as M (some (.ref v)) M' ∧ K (.ref v :: r) M'
  | _ => False
/-- the topmost n, the first of them last pushed behind; and the rest -/
def takeS (n : Nat) (S acc : List Value) (K : List Value → List Value → Prop) : Prop := match n, S with
  | 0, S => K acc S
  | n + 1, v :: S => takeS n S (v :: acc) K
  | _ + 1, [] => False
/-- a static call's arguments and the rest; an instance call's receiver behind them -/
def wpCall (E : EE) (S : List Value) (M : Mm) (K : List Value → Mm → Prop) : List Nat → Prop
  | 0 :: y :: n :: rk :: _ => takeS n S [] fun as r => cond (Nat.ble r.length 4) (wpInv E y as r M K rk) False
  | 1 :: y :: n :: rk :: c :: _ => takeS n S [] fun as r => popA r fun a r => cond (Nat.ble r.length 4) (lay a = c ∧ wpInv E y (.ref a :: as) r M K rk) False
  | 7 :: _ => popI S fun y r => popI r fun x r => cond (Nat.ble r.length 4) (K (.int (if x < y then y else x) :: r) M) False
  | 6 :: _ => popI S fun y r => popI r fun x r => cond (Nat.ble r.length 4) (K (.int (if y < x then y else x) :: r) M) False
  | 11 :: y :: n :: rk :: _ => takeS n S [] fun as r => cond (Nat.ble r.length 4) (wpInv E y as r M K rk) False
  | 8 :: _ => popI S fun n r => popI r fun dp r => popA r fun b r => popI r fun sp r => popA r fun a r => cond (Nat.ble r.length 4) True False ∧ lay a = 100 ∧ lay b = 100 ∧ ¬ sp < 0 ∧ ¬ dp < 0 ∧ ¬ n < 0 ∧ sp.toNatClampNeg + n.toNatClampNeg ≤ alen a ∧ dp.toNatClampNeg + n.toNatClampNeg ≤ alen b ∧ K r (upr M.1 b (cpf (M.1 a) (M.1 b) sp.toNatClampNeg dp.toNatClampNeg n.toNatClampNeg), M.2)
  | 9 :: _ => popI S fun n r => popI r fun dp r => popA r fun b r => popI r fun sp r => popA r fun a r => cond (Nat.ble r.length 4) True False ∧ lay a = 101 ∧ lay b = 101 ∧ ¬ sp < 0 ∧ ¬ dp < 0 ∧ ¬ n < 0 ∧ sp.toNatClampNeg + n.toNatClampNeg ≤ alen a ∧ dp.toNatClampNeg + n.toNatClampNeg ≤ alen b ∧ K r (M.1, upr M.2.1 b (cpf (M.2.1 a) (M.2.1 b) sp.toNatClampNeg dp.toNatClampNeg n.toNatClampNeg), M.2.2)
  | 10 :: _ => popA S fun a r => cond (Nat.ble r.length 4) True False ∧ (600 ≤ a ∧ a < 623) ∧ K (.int (I ((a - 600 : Nat) : Int)) :: r) M
  | _ => False
/-- 'X': the script's length and its ints -/
def wpAld (X : Nat × (Nat → Int32)) (S : List Value) (M : Mm) (K : List Value → Prop) : List Nat → Prop
  | [] => popI S fun i r => popA r fun a r => lay a = 100 ∧ inR i (alen a) ∧ K (.int (M.1 a i.toNatClampNeg) :: r)
  | 1 :: _ => popI S fun i r => popA r fun a r => a = 650 ∧ inR i 23 ∧ K (.int (I (swTab i.toNatClampNeg)) :: r)
  | 2 :: _ => popI S fun i r => popA r fun a r => a = 501 ∧ inR i X.1 ∧ K (.int (X.2 i.toNatClampNeg) :: r)
  | _ => False
def wpAald (S : List Value) (M : Mm) (K : List Value → Prop) : List Nat → Prop
  | [] => popI S fun i r => popA r fun a r => lay a = 104 ∧ inR i (alen a) ∧ K (.ref (M.2.2 a i.toNatClampNeg) :: r)
  | 1 :: b :: base :: stride :: _ => popI S fun i r => popA r fun a r => a = b ∧ inR i (alen b) ∧ K (.ref (base + stride * i.toNatClampNeg) :: r)
  | 2 :: _ => popI S fun i r => popA r fun a r => a = 651 ∧ inR i 23 ∧ K (.ref (600 + i.toNatClampNeg) :: r)
  | _ => False
def wpAlen (X : Nat × (Nat → Int32)) (a : Nat) (K : Int32 → Prop) : List Nat → Prop
  | [] => (100 ≤ lay a ∧ lay a < 108) ∧ K (I (alen a))
  | 2 :: _ => a = 501 ∧ K (I X.1)
  | 3 :: _ => a = 651 ∧ K (I 23)
  | _ => False
def wpRet (Rt : Option Value → Mm → Prop) (M : Mm) (x : Int32) : List Nat → Prop
  | [] => Rt (some (.int x)) M
  | _ => (x = I 0 ∨ x = I 1) ∧ Rt (some (.int x)) M
/-- the locals that are still wanted -/
def msk (inf : List Nat) (i : Nat) (L : List Value) : List Value := match L with
  | [] => []
  | v :: r => cond (inf.any (Nat.beq i)) v (.retAddr 0) :: msk inf (i + 1) r
section WP
variable (E : EE) (J : JJ) (Rt : Option Value → Mm → Prop) (X : Nat × (Nat → Int32)) (C : List Op)
def wp : Nat → List Op → List Value → List Value → Mm → Prop
  | 0, _, _, _, _ => False
  | _ + 1, [], _, _, _ => False
  | n + 1, (pc, i, inf) :: is, L, S, M => match i with
    | .nop => J pc (msk inf 0 L) S M
    | .iconst k => wp n is L (.int (I k) :: S) M
    | .bipush k => wp n is L (.int (I k) :: S) M
    | .sipush k => wp n is L (.int (I k) :: S) M
    | .ldc _ => wp n is L (.int (I (inf.getD 0 0)) :: S) M
    | .ldc_w _ => wp n is L (.int (I (inf.getD 0 0)) :: S) M
    | .ldc2_w _ => wp n is L (.long (Int64.ofNat (inf.getD 0 0)) :: S) M
    | .lconst k => wp n is L (.long (Int64.ofNat k.val) :: S) M
    | .aconst_null => wp n is L (.ref 0 :: S) M
    | .iload_n k => ldI L k.val fun v => wp n is L (v :: S) M
    | .iload k => ldI L k fun v => wp n is L (v :: S) M
    | .aload_n k => ldA L k.val fun v => wp n is L (v :: S) M
    | .aload k => ldA L k fun v => wp n is L (v :: S) M
    | .lload_n k => ldL L k.val fun v => wp n is L (v :: S) M
    | .lload k => ldL L k fun v => wp n is L (v :: S) M
    | .istore_n k => popI S fun v r => wp n is (stv L k.val (.int v)) r M
    | .istore k => popI S fun v r => wp n is (stv L k (.int v)) r M
    | .astore_n k => popA S fun v r => wp n is (stv L k.val (.ref v)) r M
    | .astore k => popA S fun v r => wp n is (stv L k (.ref v)) r M
    | .lstore_n k => popL S fun v r => wp n is (stw L k.val (.long v)) r M
    | .lstore k => popL S fun v r => wp n is (stw L k (.long v)) r M
    | .iinc k c => ldI L k fun v => popI [v] fun x _ => wp n is (stv L k (.int (x + I c))) S M
    | .iadd => popI S fun y r => popI r fun x r => wp n is L (.int (x + y) :: r) M
    | .isub => popI S fun y r => popI r fun x r => wp n is L (.int (x - y) :: r) M
    | .imul => popI S fun y r => popI r fun x r => wp n is L (.int (x * y) :: r) M
    | .idiv => popI S fun y r => popI r fun x r => ¬ y = 0 ∧ wp n is L (.int (x / y) :: r) M
    | .irem => popI S fun y r => popI r fun x r => ¬ y = 0 ∧ wp n is L (.int (x - x / y * y) :: r) M
    | .iand => popI S fun y r => popI r fun x r => wp n is L (.int (x &&& y) :: r) M
    | .ior => popI S fun y r => popI r fun x r => wp n is L (.int (x ||| y) :: r) M
    | .ixor => popI S fun y r => popI r fun x r => wp n is L (.int (x ^^^ y) :: r) M
    | .ishl => popI S fun y r => popI r fun x r => wp n is L (.int (x <<< (y &&& 31)) :: r) M
    | .ishr => popI S fun y r => popI r fun x r => wp n is L (.int (x >>> (y &&& 31)) :: r) M
    | .iushr => popI S fun y r => popI r fun x r => wp n is L (.int (x.toUInt32 >>> (y.toUInt32 &&& Int32.toUInt32 31)).toInt32 :: r) M
    | .i2l => popI S fun x r => wp n is L (.long x.toInt64 :: r) M
    | .i2b => popI S fun x r => wp n is L (.int x.toInt8.toInt32 :: r) M
    | .ladd => popL S fun y r => popL r fun x r => wp n is L (.long (x + y) :: r) M
    | .lmul => popL S fun y r => popL r fun x r => wp n is L (.long (x * y) :: r) M
    | .lor => popL S fun y r => popL r fun x r => wp n is L (.long (x ||| y) :: r) M
    | .lshl => popI S fun y r => popL r fun x r => wp n is L (.long (x <<< (y.toInt64 &&& 63)) :: r) M
    | .lcmp => popL S fun y r => popL r fun x r => wp n is L (.int (lg_cmp x y) :: r) M
    | .dup => pop1 S fun v r => wp n is L (v :: v :: r) M
    | .dup2 => pop1 S fun v r => pop1 r fun w r => wp n is L (v :: w :: v :: w :: r) M
    | .pop => pop1 S fun _ r => wp n is L r M
    | .goto _ => wp n (jm C (inf.getD 0 0)) L S M
    | .if_icmp c _ => popI S fun y r => popI r fun x r => (cmpI c x y → wp n (jm C (inf.getD 0 0)) L r M) ∧ (¬ cmpI c x y → wp n is L r M)
    | .ifCond c _ => popI S fun x r => (cmpI c x 0 → wp n (jm C (inf.getD 0 0)) L r M) ∧ (¬ cmpI c x 0 → wp n is L r M)
    | .if_acmp c _ => popA S fun y r => popA r fun x r => rE x ∧ rE y ∧ (cmpA c x y → wp n (jm C (inf.getD 0 0)) L r M) ∧ (¬ cmpA c x y → wp n is L r M)
    | .ifnull _ => popA S fun x r => (x = 0 → wp n (jm C (inf.getD 0 0)) L r M) ∧ (¬ x = 0 → wp n is L r M)
    | .ifnonnull _ => popA S fun x r => (¬ x = 0 → wp n (jm C (inf.getD 0 0)) L r M) ∧ (x = 0 → wp n is L r M)
    | .tableswitch _ lo _ _ => popI S fun x r => swT (fun t => wp n (jm C t) L r M) x lo (inf.getD 0 0) True inf.tail
    | .lookupswitch _ _ => popI S fun x r => swT (fun t => wp n (jm C t) L r M) x 0 (inf.getD 0 0) True inf.tail
    | .getfield _ => popA S fun a r => match inf with
      | ci :: k :: t => wpGet a ci k M (fun v => wp n is L (v :: r) M) t
      | _ => False
    | .putfield _ => match inf with
      | ci :: k :: t => wpPut S ci k M (fun r M' => wp n is L r M') t
      | _ => False
    | .getstatic _ => wp n is L (.ref (inf.getD 0 0) :: S) M
    | .invokestatic _ => wpCall E S M (fun r M' => wp n is L r M') inf
    | .invokevirtual _ => wpCall E S M (fun r M' => wp n is L r M') inf
    | .iaload => wpAld X S M (fun r => wp n is L r M) inf
    | .laload => popI S fun i r => popA r fun a r => lay a = 101 ∧ inR i (alen a) ∧ wp n is L (.long (M.2.1 a i.toNatClampNeg) :: r) M
    | .baload => popI S fun i r => popA r fun a r => (lay a = 102 ∨ lay a = 103) ∧ inR i (alen a) ∧ wp n is L (.int (M.1 a i.toNatClampNeg) :: r) M
    | .aaload => wpAald S M (fun r => wp n is L r M) inf
    | .iastore => popI S fun v r => popI r fun i r => popA r fun a r => lay a = 100 ∧ inR i (alen a) ∧ wp n is L r (sI M a i.toNatClampNeg v)
    | .lastore => popL S fun v r => popI r fun i r => popA r fun a r => lay a = 101 ∧ inR i (alen a) ∧ wp n is L r (sL M a i.toNatClampNeg v)
    | .bastore => popI S fun v r => popI r fun i r => popA r fun a r => ((lay a = 102 ∧ v.toInt8.toInt32 = v) ∨ (lay a = 103 ∧ (v = I 0 ∨ v = I 1))) ∧ inR i (alen a) ∧ wp n is L r (sI M a i.toNatClampNeg v)
    | .aastore => popA S fun v r => popI r fun i r => popA r fun a r => lay a = 104 ∧ inR i (alen a) ∧ rE v ∧ wp n is L r (sR M a i.toNatClampNeg v)
    | .arraylength => popA S fun a r => wpAlen X a (fun v => wp n is L (.int v :: r) M) inf
    | .ireturn => popI S fun x r => popN r (wpRet Rt M x inf)
    | .lreturn => popL S fun x r => popN r (Rt (some (.long x)) M)
    | .areturn => popA S fun x r => popN r (Rt (some (.ref x)) M)
    | .return_ => popN S (Rt none M)
    | _ => False
end WP
