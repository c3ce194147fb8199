/-! ===== the start's world ===== -/
section STW
variable {args : Array Value} {s : State} {A : Nat → Prop}
theorem tb_at {L : List Cond} (h : ∀ w ∈ L, w.before args s = true) {p : Nat} {w : Cond} (hp : L[p]? = some w) : w.before args s = true := h w (List.mem_of_getElem? hp)
/-- the enum's constants, its array, the switch table -/
theorem sx_start (ht : ∀ w ∈ lw_tbl, w.before args s = true) (hf : ∀ w ∈ nwL, w.before args s = true) (hA : ∀ a : Nat, a < s.heap.size → ¬ A a) : ∃ (en : Nat → Nat) (t0 t1 : Nat), va_En RX11 "LBagsRiver$Word;" wordN ordF en A s s.heap ∧ va_Ef 23 RX11 "packed" "J" (fun i => .long (pkTab i)) en A s s.heap ∧
    va_Z RX11 "ALL" "[LBagsRiver$Word;" (.ref t1) A s s.heap ∧ va_T (.object RX11) t1 23 (fun j => .ref (en j)) A s s.heap ∧ va_Z RX0 "$SwitchMap$BagsRiver$Word" "[I" (.ref t0) A s s.heap ∧ va_T .int t0 23 (fun j => .int (I (swTab j))) A s s.heap := by
  have hlen : wordN.length = 23 := rfl
  obtain ⟨T1, T2, T3, T4, T5, T6, T7, T8, T9, T10⟩ := enT
  obtain ⟨en, hE, hev⟩ := va_Enof2 (args := args) (s := s) (E := RX11) (d := "LBagsRiver$Word;") (nm := wordN) (F := ordF) (A := A) (fun i hi => tb_at ht (enA i hi).2.2.2) (tb_at ht T9) (fun i hi => tb_at hf (enA i hi).1) (fun q hq i hi => by
    rw [ordF, List.mem_singleton] at hq
    subst hq
    have h := tb_at hf (enA i hi).2.1
    have e : ((List.range 23).map fun k : Nat => I (k : Int)).getD i 0 = I (i : Int) := by
      rw [List.getD_eq_getElem?_getD, List.getElem?_map, List.getElem?_range (show i < 23 from hi)]
      rfl
    show (Cond.eq (.field (.static RX11 (wordN.getD i "") "LBagsRiver$Word;") "java/lang/Enum" "ordinal" "I") (.int (((List.range 23).map fun k : Nat => I (k : Int)).getD i 0))).before args s = true
    rw [e]
    exact h) (fun i j hi hj hne => (enD i hi j hj hne).imp (fun h => tb_at hf h) (fun h => tb_at hf h)) hA
  have hev : ∀ i, i < 23 → (stE i).eval args s none [] s = some (.ref (en i)) := fun i hi => hev i hi
  have hEf := va_Efof (args := args) (s := s) (N := 23) (E := RX11) (d0 := "LBagsRiver$Word;") (o := RX11) (n := "packed") (d := "J") (nm := wordN) (v := fun i => .long (pkTab i)) (tm := fun i => .long (pkTab i)) (ad := en) (A := A) hev (fun i hi => tb_at hf (enA i hi).2.2.1) (fun i hi => rfl) hA
  obtain ⟨t1, e1, hT1⟩ := va_Tof (args := args) (s := s) (tm := stA) (ty := .object RX11) (N := 23) (f := fun j => .ref (en j)) (A := A) (by decide) (tb_at hf T1) (va_eqv (tb_at hf T2) rfl) (fun j hj => va_eqv (tb_at hf (T3 j hj)) (hev j hj)) hA
  obtain ⟨t0, e0, hT0⟩ := va_Tof (args := args) (s := s) (tm := stS) (ty := .int) (N := 23) (f := fun j => .int (I (swTab j))) (A := A) (by decide) (tb_at hf T4) (va_eqv (tb_at hf T5) rfl) (fun j hj => va_eqv (tb_at hf (T6 j hj)) rfl) hA
  exact ⟨en, t0, t1, hE, hEf, va_Zref (tb_at ht T7) (tb_at ht T9) e1 hA, hT1, va_Zref (tb_at ht T8) (tb_at ht T10) e0 hA, hT0⟩
/-- what a throw needs -/
theorem xg_start (ht : ∀ w ∈ lw_tbl, w.before args s = true) (hf : ∀ w ∈ nwL, w.before args s = true) (hA : ∀ a : Nat, a < s.heap.size → ¬ A a) : XG A s s.heap := by
  obtain ⟨X1, X2, X3, X4, X5, X6, X7, X8, X9, X10, X11⟩ := enX
  have str : ∀ {k : Nat} {tx : String}, (Cond.exactly (.string "BagsRiver" k) "java/lang/String").before args s = true → (Cond.stringRef "BagsRiver" k tx).before args s = true → ∃ a, vk_R "BagsRiver" k tx a s := fun {k tx} h1 h2 => by
    obtain ⟨a, c, cell, kk, q1, -⟩ := Cond.exactly_spec h1
    exact ⟨a, vk_R.of h2 q1⟩
  exact ⟨fun w hw => vx_ot_at (State.WarmedH.refl s) rfl (List.all_eq_true.mp xW2 w hw) (ht w (of_decide_eq_true (List.all_eq_true.mp xW1 w hw))), vx_Zqof (tb_at ht X6) (tb_at ht X8) (tb_at hf X1) hA, vx_Zqof (tb_at ht X7) (tb_at ht X8) (tb_at hf X2) hA, str (tb_at hf X3) (tb_at ht X9), str (tb_at hf X4) (tb_at ht X10), str (tb_at hf X5) (tb_at ht X11)⟩
theorem wx_start (ht : ∀ w ∈ lw_tbl, w.before args s = true) : WX s := by
  obtain ⟨-, -, -, -, -, K6, K7, K8, K9⟩ := enK
  exact ⟨⟨va_AO.of (tb_at ht K6), va_AO.of (tb_at ht K7), va_AO.of (tb_at ht K8)⟩, tb_at ht K9, fun q hq => va_Nw.of rfl (ht _ (enN.1 q hq))⟩
theorem nx_start (ht : ∀ w ∈ lw_tbl, w.before args s = true) : Nx s := fun q hq => va_Nw.of rfl (ht _ (enN.2 q hq))
theorem arC_start {ty : FieldType} (hp : ∀ C, ty ≠ .object C) (h : (Cond.arrayClass ty).before args s = true) : ∃ cA : ClassId, ArrOfT s cA ty ∧ va_RA s cA ty := by
  obtain ⟨c, k, cc, h1, h2, h3⟩ := Cond.arrayClass_spec h
  refine ⟨c, fun N z => ⟨(fun k h => by cases h), k, h2, cc, h3⟩, ?_⟩
  cases ty with
  | object C => exact absurd rfl (hp C)
  | _ => exact h1
theorem arO_start {C : String} (h : (Cond.arrayOver (.object C)).before args s = true) : ∃ cA : ClassId, ArrOfT s cA (.object C) ∧ va_RA s cA (.object C) := by
  obtain ⟨comp, c, k, h1, h2, h3, h4, h5⟩ := Cond.arrayOver_spec h
  exact ⟨c, fun N z => ⟨(fun k h => by cases h), k, h3, comp, h4⟩, k, comp, h3, h4, h1, h5⟩
theorem k_start (ht : ∀ w ∈ lw_tbl, w.before args s = true) : ∃ (D : va_G) (cA : Nat → ClassId), va_K D vwCl (tysM cA) s := by
  obtain ⟨K1, K2, K3, K4, K5, K6, K7, K8, K9⟩ := enK
  have hk : ∀ c : Nat, ∃ x : ClassId × (Nat → Nat), c < 12 → u_Kn s (cq c).1 (cq c).2.1 (cq c).2.2 x.1 x.2 := fun c => by
    by_cases hc : c < 12
    · obtain ⟨cC, iS, h⟩ := u_known (C := (cq c).1) (T := (cq c).2.1) (N := (cq c).2.2) (n := (cq c).2.2) ht (fun w hw => (List.mem_filter.mp (inX_cq hc w hw)).1) (tb_at ht (K1 c hc))
      exact ⟨(cC, iS), fun _ => h⟩
    · exact ⟨(0, fun _ => 0), fun h => absurd h hc⟩
  obtain ⟨dx, hdx⟩ := Classical.axiomOfChoice hk
  obtain ⟨a0, r0⟩ := arC_start (ty := .int) (fun C h => by cases h) (tb_at ht K2)
  obtain ⟨a1, r1⟩ := arC_start (ty := .long) (fun C h => by cases h) (tb_at ht K3)
  obtain ⟨a2, r2⟩ := arC_start (ty := .byte) (fun C h => by cases h) (tb_at ht K4)
  obtain ⟨a3, r3⟩ := arC_start (ty := .boolean) (fun C h => by cases h) (tb_at ht K5)
  obtain ⟨a4, r4⟩ := arO_start (C := RX11) (tb_at ht K6)
  obtain ⟨a5, r5⟩ := arO_start (C := RX7) (tb_at ht K7)
  obtain ⟨a6, r6⟩ := arO_start (C := RX2) (tb_at ht K8)
  have hm : va_Nw wMul s := tb_at ht K9
  obtain ⟨comp, a7, k7, h1, -, h3, h4, h5⟩ := arrayOverA_spec (t := .int) hm
  refine ⟨(fun c => (dx c).1, fun c => (dx c).2), fun k => ([a0, a1, a2, a3, a4, a5, a6, a7] : List ClassId).getD k 0, fun c q hq => ?_, fun k q hq => ?_⟩
  · have hc : c < 12 := (List.getElem?_eq_some_iff.mp hq).1
    have e := cl_cq hc
    have e2 : q = cq c := Option.some.inj (hq.symm.trans e)
    subst e2
    exact hdx c hc
  · match k, hq with
    | 0, hq => cases hq; exact r0
    | 1, hq => cases hq; exact r1
    | 2, hq => cases hq; exact r2
    | 3, hq => cases hq; exact r3
    | 4, hq => cases hq; exact r4
    | 5, hq => cases hq; exact r5
    | 6, hq => cases hq; exact r6
    | 7, hq => cases hq; exact ⟨fun N z => ⟨(fun k h => by cases h), k7, h3, comp, h4⟩, h5⟩
    | k + 8, hq => exact absurd (List.getElem?_eq_some_iff.mp hq).1 (by show ¬ (k + 8 < 8); omega)
end STW
