/-! the small machine once more: a cut needs nothing behind it -/
def chkJ (lawf : Bool) (y cn : Nat) (is : List Op) : Bool := match is with
  | [] => true
  | o :: r => chkJ lawf y cn r && (match isNop o.2.1 with
    | true => true
    | false => decOK y o.1 o.2.1 && (sideI lawf y cn o.1 o.2.1 o.2.2 && (endI o.2.1 || decide (hdP r = some (o.1 + lenI o.2.1)))))
theorem jm_chkJ {lawf : Bool} {y cn t : Nat} : ∀ {C : List Op}, chkJ lawf y cn C = true → chkJ lawf y cn (jm C t) = true ∧ (∀ o r, jm C t = o :: r → o.1 = t)
  | [], _ => ⟨rfl, fun o r h => by cases h⟩
  | o :: C, h => by
    unfold jm
    cases hb : Nat.beq o.1 t with
    | true => exact ⟨h, fun o' r h' => by cases h'; exact Nat.eq_of_beq_eq_true hb⟩
    | false =>
      unfold chkJ at h
      rw [Bool.and_eq_true] at h
      exact jm_chkJ h.1
section SNJ
variable {p : Program} {l : Launch} {e : Env} {R : Room} {s : State} {m : MethodId} {args : Array Value} {below : List Frame} {meth : Method} {c : Code} {Q : State → Prop}
variable {D : va_G} {ad : Nat → Nat} {cA : Nat → ClassId} {y cn d : Nat} {G : Nat → Prop} {cf sf : Nat → Nat}
variable {pc : Nat} {L S : List Value} {M : Mm}
theorem sndJ (B : Bd p R s m args c D ad cA y cn d G cf sf) {Rt : Option Value → Mm → Prop} {X : Nat × (Nat → Int32)} {E : EE} {lawf : Bool} {C : List Op} (hC : chkJ lawf y cn C = true) (hE : ∀ z, z ∉ yLaw → ∀ as M v M', E z as M v M' → Ev d z as M v M') (hR : RtW p l e R s m args below meth c Q D ad cA y G cf sf Rt) (hSc : ScW lawf s ad X) (h11 : C11 lawf E p l e R s m args below meth c Q D ad cA y G cf sf) :
    ∀ (n : Nat) (is : List Op), chkJ lawf y cn is = true → ∀ (L S : List Value) (M : Mm) (o : Op) (r : List Op), is = o :: r → wp E (AtW p l e R s m args below meth c Q D ad cA y G cf sf) Rt X C n is L S M → AtW p l e R s m args below meth c Q D ad cA y G cf sf o.1 L S M := by
  intro n
  induction n with
  | zero => intro is _ L S M o r _ h; exact h.elim
  | succ n ih =>
  intro is hchk L S M o r his h
  subst his
  obtain ⟨pc, i, inf⟩ := o
  have ijn : ∀ t, ∀ L S M, wp E (AtW p l e R s m args below meth c Q D ad cA y G cf sf) Rt X C n (jm C t) L S M → AtW p l e R s m args below meth c Q D ad cA y G cf sf t L S M := by
    intro t L S M h
    obtain ⟨q1, q2⟩ := jm_chkJ (t := t) hC
    cases hj : jm C t with
    | nil =>
      rw [hj] at h
      cases n with
      | zero => exact h.elim
      | succ n => exact h.elim
    | cons o r =>
      have e := q2 o r hj
      rw [← e]
      rw [hj] at q1 h
      exact ih _ q1 L S M o r rfl h
  unfold chkJ at hchk
  rw [Bool.and_eq_true] at hchk
  obtain ⟨hr, hchk⟩ := hchk
  have ihr : ∀ (pc' : Nat), hdP r = some pc' → ∀ L S M, wp E (AtW p l e R s m args below meth c Q D ad cA y G cf sf) Rt X C n r L S M → AtW p l e R s m args below meth c Q D ad cA y G cf sf pc' L S M := by
    intro pc' hp L S M h
    cases r with
    | nil => cases hp
    | cons o r =>
      cases hp
      exact ih _ hr L S M o r rfl h
  dsimp only at hchk
  by_cases hi : i = .nop
  · subst hi
    intro hg H locs ls hl hP hS
    exact h hg H locs ls hl.msk hP hS
  have hnop : isNop i = false := by
    cases i <;> first | rfl | exact absurd rfl hi
  rw [hnop] at hchk
  dsimp only at hchk
  rw [Bool.and_eq_true, Bool.and_eq_true] at hchk
  obtain ⟨hdec, hs, hnx⟩ := hchk
  obtain ⟨len, hd, hlen⟩ := decOK_e hdec
  have ih2 : endI i = false → ∀ L S M, wp E (AtW p l e R s m args below meth c Q D ad cA y G cf sf) Rt X C n r L S M → AtW p l e R s m args below meth c Q D ad cA y G cf sf (pc + lenI i) L S M := by
    intro he
    rw [he] at hnx
    exact ihr _ (of_decide_eq_true hnx)
  cases i with
  | iconst a1 =>
    have hlen := hlen (fun _ _ _ _ q => by cases q) (fun _ _ q => by cases q)
    subst hlen
    have ih2 := ih2 rfl
    exact o_iconst B hd ih2 h
  | lconst a1 =>
    have hlen := hlen (fun _ _ _ _ q => by cases q) (fun _ _ q => by cases q)
    subst hlen
    have ih2 := ih2 rfl
    exact o_lconst B hd ih2 h
  | aconst_null  =>
    have hlen := hlen (fun _ _ _ _ q => by cases q) (fun _ _ q => by cases q)
    subst hlen
    have ih2 := ih2 rfl
    exact o_null B hd ih2 h
  | iload_n a1 =>
    have hlen := hlen (fun _ _ _ _ q => by cases q) (fun _ _ q => by cases q)
    subst hlen
    have ih2 := ih2 rfl
    exact o_iloadn B hd ih2 h
  | iload a1 =>
    have hlen := hlen (fun _ _ _ _ q => by cases q) (fun _ _ q => by cases q)
    subst hlen
    have ih2 := ih2 rfl
    exact o_iload B hd ih2 h
  | lload_n a1 =>
    have hlen := hlen (fun _ _ _ _ q => by cases q) (fun _ _ q => by cases q)
    subst hlen
    have ih2 := ih2 rfl
    exact o_lloadn B hd ih2 h
  | lload a1 =>
    have hlen := hlen (fun _ _ _ _ q => by cases q) (fun _ _ q => by cases q)
    subst hlen
    have ih2 := ih2 rfl
    exact o_lload B hd ih2 h
  | aload_n a1 =>
    have hlen := hlen (fun _ _ _ _ q => by cases q) (fun _ _ q => by cases q)
    subst hlen
    have ih2 := ih2 rfl
    exact o_aloadn B hd ih2 h
  | aload a1 =>
    have hlen := hlen (fun _ _ _ _ q => by cases q) (fun _ _ q => by cases q)
    subst hlen
    have ih2 := ih2 rfl
    exact o_aload B hd ih2 h
  | iadd  =>
    have hlen := hlen (fun _ _ _ _ q => by cases q) (fun _ _ q => by cases q)
    subst hlen
    have ih2 := ih2 rfl
    exact o_iadd B hd ih2 h
  | isub  =>
    have hlen := hlen (fun _ _ _ _ q => by cases q) (fun _ _ q => by cases q)
    subst hlen
    have ih2 := ih2 rfl
    exact o_isub B hd ih2 h
  | imul  =>
    have hlen := hlen (fun _ _ _ _ q => by cases q) (fun _ _ q => by cases q)
    subst hlen
    have ih2 := ih2 rfl
    exact o_imul B hd ih2 h
  | idiv  =>
    have hlen := hlen (fun _ _ _ _ q => by cases q) (fun _ _ q => by cases q)
    subst hlen
    have ih2 := ih2 rfl
    exact o_idiv B hd ih2 h
  | irem  =>
    have hlen := hlen (fun _ _ _ _ q => by cases q) (fun _ _ q => by cases q)
    subst hlen
    have ih2 := ih2 rfl
    exact o_irem B hd ih2 h
  | iand  =>
    have hlen := hlen (fun _ _ _ _ q => by cases q) (fun _ _ q => by cases q)
    subst hlen
    have ih2 := ih2 rfl
    exact o_iand B hd ih2 h
  | ior  =>
    have hlen := hlen (fun _ _ _ _ q => by cases q) (fun _ _ q => by cases q)
    subst hlen
    have ih2 := ih2 rfl
    exact o_ior B hd ih2 h
  | ixor  =>
    have hlen := hlen (fun _ _ _ _ q => by cases q) (fun _ _ q => by cases q)
    subst hlen
    have ih2 := ih2 rfl
    exact o_ixor B hd ih2 h
  | ishl  =>
    have hlen := hlen (fun _ _ _ _ q => by cases q) (fun _ _ q => by cases q)
    subst hlen
    have ih2 := ih2 rfl
    exact o_ishl B hd ih2 h
  | ishr  =>
    have hlen := hlen (fun _ _ _ _ q => by cases q) (fun _ _ q => by cases q)
    subst hlen
    have ih2 := ih2 rfl
    exact o_ishr B hd ih2 h
  | iushr  =>
    have hlen := hlen (fun _ _ _ _ q => by cases q) (fun _ _ q => by cases q)
    subst hlen
    have ih2 := ih2 rfl
    exact o_iushr B hd ih2 h
  | i2l  =>
    have hlen := hlen (fun _ _ _ _ q => by cases q) (fun _ _ q => by cases q)
    subst hlen
    have ih2 := ih2 rfl
    exact o_i2l B hd ih2 h
  | i2b  =>
    have hlen := hlen (fun _ _ _ _ q => by cases q) (fun _ _ q => by cases q)
    subst hlen
    have ih2 := ih2 rfl
    exact o_i2b B hd ih2 h
  | ladd  =>
    have hlen := hlen (fun _ _ _ _ q => by cases q) (fun _ _ q => by cases q)
    subst hlen
    have ih2 := ih2 rfl
    exact o_ladd B hd ih2 h
  | lmul  =>
    have hlen := hlen (fun _ _ _ _ q => by cases q) (fun _ _ q => by cases q)
    subst hlen
    have ih2 := ih2 rfl
    exact o_lmul B hd ih2 h
  | lor  =>
    have hlen := hlen (fun _ _ _ _ q => by cases q) (fun _ _ q => by cases q)
    subst hlen
    have ih2 := ih2 rfl
    exact o_lor B hd ih2 h
  | lshl  =>
    have hlen := hlen (fun _ _ _ _ q => by cases q) (fun _ _ q => by cases q)
    subst hlen
    have ih2 := ih2 rfl
    exact o_lshl B hd ih2 h
  | lcmp  =>
    have hlen := hlen (fun _ _ _ _ q => by cases q) (fun _ _ q => by cases q)
    subst hlen
    have ih2 := ih2 rfl
    exact o_lcmp B hd ih2 h
  | dup  =>
    have hlen := hlen (fun _ _ _ _ q => by cases q) (fun _ _ q => by cases q)
    subst hlen
    have ih2 := ih2 rfl
    exact o_dup B hd ih2 h
  | dup2  =>
    have hlen := hlen (fun _ _ _ _ q => by cases q) (fun _ _ q => by cases q)
    subst hlen
    have ih2 := ih2 rfl
    exact o_dup2 B hd ih2 h
  | pop  =>
    have hlen := hlen (fun _ _ _ _ q => by cases q) (fun _ _ q => by cases q)
    subst hlen
    have ih2 := ih2 rfl
    exact o_pop B hd ih2 h
  | laload  =>
    have hlen := hlen (fun _ _ _ _ q => by cases q) (fun _ _ q => by cases q)
    subst hlen
    have ih2 := ih2 rfl
    exact o_lald B hd ih2 h
  | baload  =>
    have hlen := hlen (fun _ _ _ _ q => by cases q) (fun _ _ q => by cases q)
    subst hlen
    have ih2 := ih2 rfl
    exact o_bald B hd ih2 h
  | iastore  =>
    have hlen := hlen (fun _ _ _ _ q => by cases q) (fun _ _ q => by cases q)
    subst hlen
    have ih2 := ih2 rfl
    exact o_iast B hd ih2 h
  | lastore  =>
    have hlen := hlen (fun _ _ _ _ q => by cases q) (fun _ _ q => by cases q)
    subst hlen
    have ih2 := ih2 rfl
    exact o_last B hd ih2 h
  | bastore  =>
    have hlen := hlen (fun _ _ _ _ q => by cases q) (fun _ _ q => by cases q)
    subst hlen
    have ih2 := ih2 rfl
    exact o_bast B hd ih2 h
  | aastore  =>
    have hlen := hlen (fun _ _ _ _ q => by cases q) (fun _ _ q => by cases q)
    subst hlen
    have ih2 := ih2 rfl
    exact o_aast B hd ih2 h
  | bipush a1 =>
    have hlen := hlen (fun _ _ _ _ q => by cases q) (fun _ _ q => by cases q)
    subst hlen
    have ih2 := ih2 rfl
    exact o_bipush B (of_decide_eq_true hs) hd ih2 h
  | sipush a1 =>
    have hlen := hlen (fun _ _ _ _ q => by cases q) (fun _ _ q => by cases q)
    subst hlen
    have ih2 := ih2 rfl
    exact o_sipush B (of_decide_eq_true hs) hd ih2 h
  | ldc a1 =>
    have hlen := hlen (fun _ _ _ _ q => by cases q) (fun _ _ q => by cases q)
    subst hlen
    have ih2 := ih2 rfl
    obtain ⟨ps, hk⟩ := inCp_e hs
    exact o_ldc B (inP_gtb hk) hd ih2 h
  | ldc_w a1 =>
    have hlen := hlen (fun _ _ _ _ q => by cases q) (fun _ _ q => by cases q)
    subst hlen
    have ih2 := ih2 rfl
    obtain ⟨ps, hk⟩ := inCp_e hs
    exact o_ldcw B (inP_gtb hk) hd ih2 h
  | ldc2_w a1 =>
    have hlen := hlen (fun _ _ _ _ q => by cases q) (fun _ _ q => by cases q)
    subst hlen
    have ih2 := ih2 rfl
    obtain ⟨ps, hk⟩ := inCp_e hs
    exact o_ldc2 B (inP_gtb hk) hd ih2 h
  | istore_n a1 =>
    have hlen := hlen (fun _ _ _ _ q => by cases q) (fun _ _ q => by cases q)
    subst hlen
    have ih2 := ih2 rfl
    exact o_istoren B (Nat.le_of_ble_eq_true hs) hd ih2 h
  | istore a1 =>
    have hlen := hlen (fun _ _ _ _ q => by cases q) (fun _ _ q => by cases q)
    subst hlen
    have ih2 := ih2 rfl
    exact o_istore B (Nat.le_of_ble_eq_true hs) hd ih2 h
  | astore_n a1 =>
    have hlen := hlen (fun _ _ _ _ q => by cases q) (fun _ _ q => by cases q)
    subst hlen
    have ih2 := ih2 rfl
    exact o_astoren B (Nat.le_of_ble_eq_true hs) hd ih2 h
  | astore a1 =>
    have hlen := hlen (fun _ _ _ _ q => by cases q) (fun _ _ q => by cases q)
    subst hlen
    have ih2 := ih2 rfl
    exact o_astore B (Nat.le_of_ble_eq_true hs) hd ih2 h
  | lstore_n a1 =>
    have hlen := hlen (fun _ _ _ _ q => by cases q) (fun _ _ q => by cases q)
    subst hlen
    have ih2 := ih2 rfl
    exact o_lstoren B (Nat.le_of_ble_eq_true hs) hd ih2 h
  | lstore a1 =>
    have hlen := hlen (fun _ _ _ _ q => by cases q) (fun _ _ q => by cases q)
    subst hlen
    have ih2 := ih2 rfl
    exact o_lstore B (Nat.le_of_ble_eq_true hs) hd ih2 h
  | iinc a1 a2 =>
    have hlen := hlen (fun _ _ _ _ q => by cases q) (fun _ _ q => by cases q)
    subst hlen
    have ih2 := ih2 rfl
    exact o_iinc B (Nat.le_of_ble_eq_true hs) hd ih2 h
  | goto a1 =>
    have hlen := hlen (fun _ _ _ _ q => by cases q) (fun _ _ q => by cases q)
    subst hlen
    exact o_goto (K := fun _ _ _ => False) B hd (of_decide_eq_true hs) (fun _ _ _ q => q.elim) (ijn (inf.getD 0 0)) h
  | if_icmp a1 a2 =>
    have hlen := hlen (fun _ _ _ _ q => by cases q) (fun _ _ q => by cases q)
    subst hlen
    have ih2 := ih2 rfl
    exact o_icmp B hd (of_decide_eq_true hs) ih2 (ijn (inf.getD 0 0)) h
  | ifCond a1 a2 =>
    have hlen := hlen (fun _ _ _ _ q => by cases q) (fun _ _ q => by cases q)
    subst hlen
    have ih2 := ih2 rfl
    exact o_ifc B hd (of_decide_eq_true hs) ih2 (ijn (inf.getD 0 0)) h
  | ifnull a1 =>
    have hlen := hlen (fun _ _ _ _ q => by cases q) (fun _ _ q => by cases q)
    subst hlen
    have ih2 := ih2 rfl
    exact o_ifnull B hd (of_decide_eq_true hs) ih2 (ijn (inf.getD 0 0)) h
  | ifnonnull a1 =>
    have hlen := hlen (fun _ _ _ _ q => by cases q) (fun _ _ q => by cases q)
    subst hlen
    have ih2 := ih2 rfl
    exact o_ifnonnull B hd (of_decide_eq_true hs) ih2 (ijn (inf.getD 0 0)) h
  | if_acmp a1 a2 =>
    have hlen := hlen (fun _ _ _ _ q => by cases q) (fun _ _ q => by cases q)
    subst hlen
    have ih2 := ih2 rfl
    exact o_acmp B hd (of_decide_eq_true hs) ih2 (ijn (inf.getD 0 0)) h
  | tableswitch a1 a2 a3 a4 =>
    unfold sideI at hs
    rw [Bool.and_eq_true, Bool.and_eq_true, Bool.and_eq_true, Bool.and_eq_true] at hs
    obtain ⟨h1, h2, h3, h4, h5⟩ := hs
    refine o_table (K2 := fun t => wp E _ Rt X C n (jm C t)) B hd (of_decide_eq_true h1) (of_decide_eq_true h2) (of_decide_eq_true h3) (of_decide_eq_true h4) (fun j t hj => ?_) (fun t _ => ijn t) h
    have hjl : j < inf.tail.length := (List.getElem?_eq_some_iff.mp hj).1
    have h6 := List.all_eq_true.mp h5 j (List.mem_range.mpr hjl)
    split at h6
    · rename_i off ho
      refine ⟨off, ho, ?_⟩
      have h7 := of_decide_eq_true h6
      rw [h7, List.getD_eq_getElem?_getD, hj]
      rfl
    · cases h6
  | lookupswitch a1 a2 =>
    unfold sideI at hs
    dsimp only at hs
    split at hs
    · rename_i o0 o1 td t0 t1 hps
      rw [Bool.and_eq_true, Bool.and_eq_true] at hs
      have hps2 : a2 = #[(0, o0), (1, o1)] := Array.toList_inj.mp hps
      subst hps2
      exact o_look2 (K2 := fun t => wp E _ Rt X C n (jm C t)) B hd (of_decide_eq_true hs.1) (of_decide_eq_true hs.2.1) (of_decide_eq_true hs.2.2) (fun t _ => ijn t) h
    · cases hs
  | getfield a1 =>
    have hlen := hlen (fun _ _ _ _ q => by cases q) (fun _ _ q => by cases q)
    subst hlen
    have ih2 := ih2 rfl
    obtain ⟨ps, hk⟩ := inCp_e hs
    obtain ⟨a, r, rfl, h⟩ := popA_e h
    exact get_w B hd hk ih2 h
  | putfield a1 =>
    have hlen := hlen (fun _ _ _ _ q => by cases q) (fun _ _ q => by cases q)
    subst hlen
    have ih2 := ih2 rfl
    obtain ⟨ps, hk⟩ := inCp_e hs
    exact put_w B hd hk ih2 h
  | getstatic a1 =>
    have hlen := hlen (fun _ _ _ _ q => by cases q) (fun _ _ q => by cases q)
    subst hlen
    have ih2 := ih2 rfl
    obtain ⟨ps, hk⟩ := inCp_e hs
    exact gets_w B hd hk ih2 h
  | invokestatic a1 =>
    have hlen := hlen (fun _ _ _ _ q => by cases q) (fun _ _ q => by cases q)
    subst hlen
    have ih2 := ih2 rfl
    exact stat_w B hd hs hE h11 (ih2 _) h
  | invokevirtual a1 =>
    have hlen := hlen (fun _ _ _ _ q => by cases q) (fun _ _ q => by cases q)
    subst hlen
    have ih2 := ih2 rfl
    exact virt_w B hd hs hE (ih2 _) h
  | iaload  =>
    have hlen := hlen (fun _ _ _ _ q => by cases q) (fun _ _ q => by cases q)
    subst hlen
    have ih2 := ih2 rfl
    exact iald_w B hd hs hSc ih2 h
  | aaload  =>
    have hlen := hlen (fun _ _ _ _ q => by cases q) (fun _ _ q => by cases q)
    subst hlen
    have ih2 := ih2 rfl
    exact aald_w B hd hs ih2 h
  | arraylength  =>
    have hlen := hlen (fun _ _ _ _ q => by cases q) (fun _ _ q => by cases q)
    subst hlen
    have ih2 := ih2 rfl
    obtain ⟨a, r, rfl, h⟩ := popA_e h
    exact alen_w B hd hs hSc ih2 h
  | ireturn  =>
    have hlen := hlen (fun _ _ _ _ q => by cases q) (fun _ _ q => by cases q)
    subst hlen
    obtain ⟨x, r, rfl, h⟩ := popI_e h
    obtain ⟨rfl, h⟩ := popN_e h
    exact iret_w hR hd hs h
  | lreturn  =>
    have hlen := hlen (fun _ _ _ _ q => by cases q) (fun _ _ q => by cases q)
    subst hlen
    obtain ⟨x, r, rfl, h⟩ := popL_e h
    obtain ⟨rfl, h⟩ := popN_e h
    intro hg H locs ls hl hP hS
    exact hR _ _ h hg _ _ _ _ hP hS (Or.inr (Or.inl ⟨x, rfl, hd, of_decide_eq_true hs⟩))
  | areturn  =>
    have hlen := hlen (fun _ _ _ _ q => by cases q) (fun _ _ q => by cases q)
    subst hlen
    obtain ⟨x, r, rfl, h⟩ := popA_e h
    obtain ⟨rfl, h⟩ := popN_e h
    unfold sideI at hs
    dsimp only at hs
    split at hs
    · rename_i z hz
      intro hg H locs ls hl hP hS
      exact hR _ _ h hg _ _ _ _ hP hS (Or.inr (Or.inr (Or.inl ⟨x, z, rfl, hd, hz⟩)))
    · cases hs
  | return_  =>
    have hlen := hlen (fun _ _ _ _ q => by cases q) (fun _ _ q => by cases q)
    subst hlen
    obtain ⟨rfl, h⟩ := popN_e h
    intro hg H locs ls hl hP hS
    exact hR _ _ h hg _ _ _ _ hP hS (Or.inr (Or.inr (Or.inr ⟨rfl, hd, of_decide_eq_true hs⟩)))
  | nop => exact absurd rfl hi
  | _ => cases hs
end SNJ
