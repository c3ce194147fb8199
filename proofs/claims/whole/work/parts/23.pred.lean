/-! which addresses are streets, states and so on; what lies there -/
def St (o : Nat) : Prop := o = 100 ∨ o = 120 ∨ o = 710 ∨ o = 810
theorem St_0 {o : Nat} (h : St o) : lay o = 8 := by rcases h with rfl | rfl | rfl | rfl <;> rfl
theorem St_1 {o : Nat} (h : St o) : lay (o + 1) = 101 := by rcases h with rfl | rfl | rfl | rfl <;> rfl
theorem St_2 {o : Nat} (h : St o) : lay (o + 2) = 100 := by rcases h with rfl | rfl | rfl | rfl <;> rfl
theorem St_3 {o : Nat} (h : St o) : lay (o + 3) = 101 := by rcases h with rfl | rfl | rfl | rfl <;> rfl
theorem St_4 {o : Nat} (h : St o) : lay (o + 4) = 100 := by rcases h with rfl | rfl | rfl | rfl <;> rfl
theorem St_5 {o : Nat} (h : St o) : lay (o + 5) = 100 := by rcases h with rfl | rfl | rfl | rfl <;> rfl
theorem St_6 {o : Nat} (h : St o) : lay (o + 6) = 100 := by rcases h with rfl | rfl | rfl | rfl <;> rfl
theorem St_7 {o : Nat} (h : St o) : lay (o + 7) = 101 := by rcases h with rfl | rfl | rfl | rfl <;> rfl
theorem St_8 {o : Nat} (h : St o) : lay (o + 8) = 100 := by rcases h with rfl | rfl | rfl | rfl <;> rfl
theorem St_9 {o : Nat} (h : St o) : lay (o + 9) = 100 := by rcases h with rfl | rfl | rfl | rfl <;> rfl
theorem St_10 {o : Nat} (h : St o) : lay (o + 10) = 100 := by rcases h with rfl | rfl | rfl | rfl <;> rfl
theorem St_11 {o : Nat} (h : St o) : lay (o + 11) = 3 := by rcases h with rfl | rfl | rfl | rfl <;> rfl
theorem St_12 {o : Nat} (h : St o) : lay (o + 12) = 100 := by rcases h with rfl | rfl | rfl | rfl <;> rfl
theorem St_13 {o : Nat} (h : St o) : lay (o + 13) = 100 := by rcases h with rfl | rfl | rfl | rfl <;> rfl
theorem St_14 {o : Nat} (h : St o) : lay (o + 14) = 3 := by rcases h with rfl | rfl | rfl | rfl <;> rfl
theorem St_15 {o : Nat} (h : St o) : lay (o + 15) = 100 := by rcases h with rfl | rfl | rfl | rfl <;> rfl
theorem St_16 {o : Nat} (h : St o) : lay (o + 16) = 100 := by rcases h with rfl | rfl | rfl | rfl <;> rfl
theorem Stl_1 {o : Nat} (h : St o) : alen (o + 1) = 5 := by rcases h with rfl | rfl | rfl | rfl <;> rfl
theorem Stl_2 {o : Nat} (h : St o) : alen (o + 2) = 5 := by rcases h with rfl | rfl | rfl | rfl <;> rfl
theorem Stl_3 {o : Nat} (h : St o) : alen (o + 3) = 10 := by rcases h with rfl | rfl | rfl | rfl <;> rfl
theorem Stl_4 {o : Nat} (h : St o) : alen (o + 4) = 10 := by rcases h with rfl | rfl | rfl | rfl <;> rfl
theorem Stl_5 {o : Nat} (h : St o) : alen (o + 5) = 10 := by rcases h with rfl | rfl | rfl | rfl <;> rfl
theorem Stl_6 {o : Nat} (h : St o) : alen (o + 6) = 10 := by rcases h with rfl | rfl | rfl | rfl <;> rfl
theorem Stl_7 {o : Nat} (h : St o) : alen (o + 7) = 6 := by rcases h with rfl | rfl | rfl | rfl <;> rfl
theorem Stl_8 {o : Nat} (h : St o) : alen (o + 8) = 6 := by rcases h with rfl | rfl | rfl | rfl <;> rfl
theorem Stl_9 {o : Nat} (h : St o) : alen (o + 9) = 6 := by rcases h with rfl | rfl | rfl | rfl <;> rfl
theorem Stl_10 {o : Nat} (h : St o) : alen (o + 10) = 6 := by rcases h with rfl | rfl | rfl | rfl <;> rfl
theorem Stl_12 {o : Nat} (h : St o) : alen (o + 12) = 6 := by rcases h with rfl | rfl | rfl | rfl <;> rfl
theorem Stl_13 {o : Nat} (h : St o) : alen (o + 13) = 6 := by rcases h with rfl | rfl | rfl | rfl <;> rfl
theorem Stl_15 {o : Nat} (h : St o) : alen (o + 15) = 8 := by rcases h with rfl | rfl | rfl | rfl <;> rfl
theorem Stl_16 {o : Nat} (h : St o) : alen (o + 16) = 8 := by rcases h with rfl | rfl | rfl | rfl <;> rfl
def Sa (o : Nat) : Prop := o = 200 ∨ o = 205 ∨ o = 210 ∨ o = 215 ∨ o = 220 ∨ o = 225 ∨ o = 230 ∨ o = 235 ∨ o = 240 ∨ o = 245 ∨ o = 740 ∨ o = 840
theorem Sa_0 {o : Nat} (h : Sa o) : lay o = 7 := by rcases h with rfl | rfl | rfl | rfl | rfl | rfl | rfl | rfl | rfl | rfl | rfl | rfl <;> rfl
theorem Sa_1 {o : Nat} (h : Sa o) : lay (o + 1) = 100 := by rcases h with rfl | rfl | rfl | rfl | rfl | rfl | rfl | rfl | rfl | rfl | rfl | rfl <;> rfl
theorem Sa_2 {o : Nat} (h : Sa o) : lay (o + 2) = 100 := by rcases h with rfl | rfl | rfl | rfl | rfl | rfl | rfl | rfl | rfl | rfl | rfl | rfl <;> rfl
theorem Sa_3 {o : Nat} (h : Sa o) : lay (o + 3) = 100 := by rcases h with rfl | rfl | rfl | rfl | rfl | rfl | rfl | rfl | rfl | rfl | rfl | rfl <;> rfl
theorem Sal_1 {o : Nat} (h : Sa o) : alen (o + 1) = 5 := by rcases h with rfl | rfl | rfl | rfl | rfl | rfl | rfl | rfl | rfl | rfl | rfl | rfl <;> rfl
theorem Sal_2 {o : Nat} (h : Sa o) : alen (o + 2) = 6 := by rcases h with rfl | rfl | rfl | rfl | rfl | rfl | rfl | rfl | rfl | rfl | rfl | rfl <;> rfl
theorem Sal_3 {o : Nat} (h : Sa o) : alen (o + 3) = 10 := by rcases h with rfl | rfl | rfl | rfl | rfl | rfl | rfl | rfl | rfl | rfl | rfl | rfl <;> rfl
def Se (o : Nat) : Prop := o = 300 ∨ o = 310 ∨ o = 750 ∨ o = 850
theorem Se_0 {o : Nat} (h : Se o) : lay o = 6 := by rcases h with rfl | rfl | rfl | rfl <;> rfl
theorem Se_1 {o : Nat} (h : Se o) : lay (o + 1) = 104 := by rcases h with rfl | rfl | rfl | rfl <;> rfl
theorem Se_2 {o : Nat} (h : Se o) : lay (o + 2) = 100 := by rcases h with rfl | rfl | rfl | rfl <;> rfl
theorem Se_3 {o : Nat} (h : Se o) : lay (o + 3) = 100 := by rcases h with rfl | rfl | rfl | rfl <;> rfl
theorem Se_4 {o : Nat} (h : Se o) : lay (o + 4) = 100 := by rcases h with rfl | rfl | rfl | rfl <;> rfl
theorem Sel_1 {o : Nat} (h : Se o) : alen (o + 1) = 40 := by rcases h with rfl | rfl | rfl | rfl <;> rfl
theorem Sel_2 {o : Nat} (h : Se o) : alen (o + 2) = 40 := by rcases h with rfl | rfl | rfl | rfl <;> rfl
theorem Sel_3 {o : Nat} (h : Se o) : alen (o + 3) = 40 := by rcases h with rfl | rfl | rfl | rfl <;> rfl
theorem Sel_4 {o : Nat} (h : Se o) : alen (o + 4) = 20 := by rcases h with rfl | rfl | rfl | rfl <;> rfl
def Im (o : Nat) : Prop := o = 700 ∨ o = 800
theorem Im_0 {o : Nat} (h : Im o) : lay o = 2 := by rcases h with rfl | rfl <;> rfl
theorem Im_10 {o : Nat} (h : Im o) : lay (o + 10) = 8 := by rcases h with rfl | rfl <;> rfl
theorem Im_40 {o : Nat} (h : Im o) : lay (o + 40) = 7 := by rcases h with rfl | rfl <;> rfl
theorem Im_50 {o : Nat} (h : Im o) : lay (o + 50) = 6 := by rcases h with rfl | rfl <;> rfl
def Pr (o n : Nat) : Prop := ((o = 111 ∨ o = 131 ∨ o = 721 ∨ o = 821) ∧ n = 6) ∨ ((o = 114 ∨ o = 134 ∨ o = 724 ∨ o = 824) ∧ n = 8)
theorem Pr_0 {o n : Nat} (h : Pr o n) : lay o = 3 := by rcases h with ⟨h, -⟩ | ⟨h, -⟩ <;> rcases h with rfl | rfl | rfl | rfl <;> rfl
theorem Pr_1 {o n : Nat} (h : Pr o n) : lay (o + 1) = 100 := by rcases h with ⟨h, -⟩ | ⟨h, -⟩ <;> rcases h with rfl | rfl | rfl | rfl <;> rfl
theorem Pr_2 {o n : Nat} (h : Pr o n) : lay (o + 2) = 100 := by rcases h with ⟨h, -⟩ | ⟨h, -⟩ <;> rcases h with rfl | rfl | rfl | rfl <;> rfl
theorem Prl_1 {o n : Nat} (h : Pr o n) : alen (o + 1) = n := by rcases h with ⟨h, rfl⟩ | ⟨h, rfl⟩ <;> rcases h with rfl | rfl | rfl | rfl <;> rfl
theorem Prl_2 {o n : Nat} (h : Pr o n) : alen (o + 2) = n := by rcases h with ⟨h, rfl⟩ | ⟨h, rfl⟩ <;> rcases h with rfl | rfl | rfl | rfl <;> rfl
theorem St_cr {o : Nat} (h : St o) : Pr (o + 11) 6 := by rcases h with rfl | rfl | rfl | rfl <;> simp [Pr]
theorem St_ga {o : Nat} (h : St o) : Pr (o + 14) 8 := by rcases h with rfl | rfl | rfl | rfl <;> simp [Pr]
theorem inR_c (k : Int) (n : Nat) (h : decide (0 ≤ k ∧ k < n ∧ n < 2147483648) = true) : inR (I k) n := by
  have h := of_decide_eq_true h
  have e := I_toInt (z := k) (by omega) (by omega)
  intro q
  rcases q with q | q
  · have q := Int32.lt_iff_toInt_lt.mp q
    rw [e] at q
    have : (0 : Int32).toInt = 0 := rfl
    omega
  · have e2 : (I k).toNatClampNeg = k.toNat := by show (I k).toInt.toNat = _; rw [e]
    rw [e2] at q
    omega
theorem nz_c (k : Int) (h : decide (0 < k ∧ k < 2147483648) = true) : ¬ I k = 0 := by
  have h := of_decide_eq_true h
  have e := I_toInt (z := k) (by omega) (by omega)
  intro q
  rw [q] at e
  have : (0 : Int32).toInt = 0 := rfl
  omega
theorem inR_e {i : Int32} {a b : Nat} (e : a = b) (h : inR i b) : inR i a := e ▸ h
theorem rE_c (k : Nat) (h : decide (k = 0 ∨ (600 ≤ k ∧ k < 623)) = true) : rE k := by
  unfold rE
  exact of_decide_eq_true h
def StepP (d : Nat) (C : List Op) (r9 : Option Value) (M9 : Mm) (At : JJ) : Prop := ∀ (pc : Nat) (L S : List Value) (M : Mm), wp (Ev d) At (fun r' M'' => r' = r9 ∧ M'' = M9) X0 C 1000 (jmT C pc) L S M → At pc L S M
