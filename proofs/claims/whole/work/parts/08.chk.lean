def lenI (i : Instr) : Nat := match i with
  | .bipush _ => 2 | .ldc _ => 2 | .iload _ => 2 | .lload _ => 2 | .aload _ => 2 | .istore _ => 2 | .astore _ => 2 | .lstore _ => 2
  | .sipush _ => 3 | .ldc_w _ => 3 | .ldc2_w _ => 3 | .iinc _ _ => 3 | .goto _ => 3 | .if_icmp _ _ => 3 | .ifCond _ _ => 3 | .if_acmp _ _ => 3 | .ifnull _ => 3 | .ifnonnull _ => 3 | .getfield _ => 3 | .putfield _ => 3 | .getstatic _ => 3 | .invokestatic _ => 3 | .invokevirtual _ => 3
  | _ => 1
/-- does it never go on to the next instruction? -/
def endI (i : Instr) : Bool := match i with
  | .goto _ => true | .tableswitch _ _ _ _ => true | .lookupswitch _ _ => true | .ireturn => true | .lreturn => true | .areturn => true | .return_ => true
  | _ => false
def inCp (cn kind idx : Nat) (inf : List Nat) : Bool := (cpC cn).any fun e => Nat.beq e.1 idx && (Nat.beq e.2.1 kind && decide (e.2.2.1 = inf))
def tgtI (pc : Nat) (off : Int) (inf : List Nat) : Bool := decide ((pc : Int) + off = (inf.getD 0 0 : Nat))
def law11 : List (Nat × List Nat) := [(49, [11, 275, 4, 1]), (99, [11, 276, 4, 1]), (106, [11, 277, 5, 1])]
/-- what an instruction must bring with it -/
def sideI (lawf : Bool) (y cn pc : Nat) (i : Instr) (inf : List Nat) : Bool := match i with
  | .iconst _ => true | .lconst _ => true | .aconst_null => true
  | .bipush k => decide ((Int8.ofInt k).toInt32 = I k)
  | .sipush k => decide ((Int16.ofInt k).toInt32 = I k)
  | .ldc idx => inCp cn 3 idx [inf.getD 0 0]
  | .ldc_w idx => inCp cn 3 idx [inf.getD 0 0]
  | .ldc2_w idx => inCp cn 4 idx [inf.getD 0 0]
  | .iload_n _ => true | .iload _ => true | .aload_n _ => true | .aload _ => true | .lload_n _ => true | .lload _ => true
  | .istore_n k => Nat.blt k.val (yM y) | .astore_n k => Nat.blt k.val (yM y) | .lstore_n k => Nat.blt (k.val + 1) (yM y)
  | .istore k => Nat.blt k (yM y) | .astore k => Nat.blt k (yM y) | .lstore k => Nat.blt (k + 1) (yM y)
  | .iinc k _ => Nat.blt k (yM y)
  | .iadd => true | .isub => true | .imul => true | .idiv => true | .irem => true | .iand => true | .ior => true | .ixor => true | .ishl => true | .ishr => true | .iushr => true
  | .i2l => true | .i2b => true | .ladd => true | .lmul => true | .lor => true | .lshl => true | .lcmp => true | .dup => true | .dup2 => true | .pop => true
  | .goto off => tgtI pc off inf | .if_icmp _ off => tgtI pc off inf | .ifCond _ off => tgtI pc off inf | .if_acmp _ off => tgtI pc off inf | .ifnull off => tgtI pc off inf | .ifnonnull off => tgtI pc off inf
  | .tableswitch dflt lo hi offs => tgtI pc dflt inf && (decide (0 ≤ lo) && (decide (hi < 1000) && (decide ((inf.tail.length : Int) = hi - lo + 1) && (List.range inf.tail.length).all fun j => match offs[j]? with | some off => decide ((pc : Int) + off = (inf.tail.getD j 0 : Nat)) | none => false)))
  | .lookupswitch dflt ps => (match ps.toList, inf with
    | [(0, o0), (1, o1)], [td, t0, t1] => decide ((pc : Int) + dflt = (td : Nat)) && (decide ((pc : Int) + o0 = (t0 : Nat)) && decide ((pc : Int) + o1 = (t1 : Nat)))
    | _, _ => false)
  | .getfield idx => inCp cn 0 idx inf
  | .putfield idx => inCp cn 0 idx inf
  | .getstatic idx => inCp cn 1 idx [inf.getD 0 0]
  | .invokestatic idx => (match inf with
    | 1 :: _ => false
    | 10 :: _ => false
    | 11 :: _ => lawf && decide ((idx, inf) ∈ law11)
    | _ => inCp cn 2 idx inf)
  | .invokevirtual idx => (match inf with
    | 1 :: _ => inCp cn 2 idx inf
    | 10 :: _ => inCp cn 2 idx inf
    | _ => false)
  | .iaload => (match inf with | 2 :: _ => lawf | _ => true)
  | .laload => true | .baload => true
  | .aaload => (match inf with
    | 1 :: b :: base :: stride :: _ => Nat.ble 105 (lay b) && (Nat.blt (lay b) 108 && (decide (cbs b = (base, stride)) && Nat.blt 0 base))
    | _ => true)
  | .iastore => true | .lastore => true | .bastore => true | .aastore => true
  | .arraylength => (match inf with | 2 :: _ => lawf | _ => true)
  | .ireturn => (match inf with | [] => decide (yR y = some .int) | _ => decide (yR y = some .boolean))
  | .lreturn => decide (yR y = some .long)
  | .areturn => (match yR y with | some (.object _) => true | _ => false)
  | .return_ => decide (yR y = none)
  | _ => false
def isNop (i : Instr) : Bool := match i with | .nop => true | _ => false
def hdP (is : List Op) : Option Nat := match is with | [] => none | o :: _ => some o.1
def decOK (y pc : Nat) (i : Instr) : Bool := match decode (yB y) pc with
  | .ok (j, n) => decide (j = i) && (match i with | .tableswitch _ _ _ _ => true | .lookupswitch _ _ => true | _ => Nat.beq n (lenI i))
  | .error _ => false
def chk (lawf : Bool) (y cn : Nat) (is : List Op) : Bool := match is with
  | [] => true
  | o :: r => chk lawf y cn r && (match isNop o.2.1 with
    | true => decide (hdP r = some o.1)
    | false => decOK y o.1 o.2.1 && (sideI lawf y cn o.1 o.2.1 o.2.2 && (endI o.2.1 || decide (hdP r = some (o.1 + lenI o.2.1)))))
theorem inCp_e {cn kind idx : Nat} {inf : List Nat} (h : inCp cn kind idx inf = true) : ∃ ps : List Nat, linkOK cn (idx, kind, inf, ps) = true := by
  unfold inCp at h
  obtain ⟨e, he, h1⟩ := List.any_eq_true.mp h
  rw [Bool.and_eq_true, Bool.and_eq_true, decide_eq_true_eq] at h1
  obtain ⟨a, b, c, d⟩ := e
  have e1 := Nat.eq_of_beq_eq_true h1.1
  have e2 := Nat.eq_of_beq_eq_true h1.2.1
  have e3 := h1.2.2
  dsimp only at e1 e2 e3
  subst e1; subst e2; subst e3
  exact ⟨d, cpC_ok cn _ he⟩
theorem decOK_e {y pc : Nat} {i : Instr} (h : decOK y pc i = true) : ∃ n, decode (yB y) pc = .ok (i, n) ∧ ((∀ a b c d, i ≠ .tableswitch a b c d) → (∀ a b, i ≠ .lookupswitch a b) → n = lenI i) := by
  unfold decOK at h
  split at h
  · rename_i j n hj
    rw [Bool.and_eq_true, decide_eq_true_eq] at h
    obtain ⟨h1, h2⟩ := h
    subst h1
    refine ⟨n, hj, fun q1 q2 => ?_⟩
    split at h2
    · exact absurd rfl (q1 _ _ _ _)
    · exact absurd rfl (q2 _ _)
    · exact Nat.eq_of_beq_eq_true h2
  · cases h
theorem jm_chk {lawf : Bool} {y cn t : Nat} : ∀ {C : List Op}, chk lawf y cn C = true → chk lawf y cn (jm C t) = true ∧ (∀ o r, jm C t = o :: r → o.1 = t)
  | [], _ => ⟨rfl, fun o r h => by cases h⟩
  | o :: C, h => by
    unfold jm
    cases hb : Nat.beq o.1 t with
    | true => exact ⟨h, fun o' r h' => by cases h'; exact Nat.eq_of_beq_eq_true hb⟩
    | false =>
      unfold chk at h
      rw [Bool.and_eq_true] at h
      exact jm_chk h.1

def okM (y cn : Nat) (C : List Op) : Bool := chk false y cn C && (decide (Rn cn = (yN y).cls) && (plainName (yN y).cls && (Nat.blt y 281 && (!decide (y ∈ yLaw) && decide (hdP C = some 0)))))
