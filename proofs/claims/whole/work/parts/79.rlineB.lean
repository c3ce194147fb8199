/-! ===== a street's text: the reference's lines, more ===== -/
section RLO
variable {M : Mm} {b : Nat → Nat} {n L p on : Nat} {g : Nat → Int} {nm : Nat → List Nat}
theorem RNm_same {N : Mm} {g' : Nat → Int} (h : RNm M 405 21 g nm) (h2 : N.2.1 405 = M.2.1 405) (e0 : g' 0 = g 0) (e1 : g' 1 = g 1) (e2 : g' 2 = g 2) : RNm N 405 21 g' nm := by
  unfold RNm at h ⊢
  rw [h2, e0, e1, e2]
  exact h
theorem r_pair {d cnt most fst snd : Nat} {high lo hi : Int} (h : RT M b n L p) (hI : RI M g nm on) (hc : 2 < cnt ∧ cnt < 89) (h5 : cnt < fst ∧ cnt < snd) (hf : fst + most ≤ 89) (hs : snd + most ≤ 89) (e0 : 0 ≤ g cnt ∧ g cnt ≤ most) (eb : ∀ k : Nat, (k : Int) < g cnt → 0 ≤ g (fst + k) ∧ g (fst + k) < 1000) (hh : 0 ≤ high ∧ high < 1000) (hl : 0 ≤ lo ∧ lo < 1000) (hi2 : 0 ≤ hi ∧ hi < 1000) : EvQ (d + 5) 82 [.ref 400, .int (I cnt), .int (I most), .int (I fst), .int (I high), .int (I snd), .int (I lo), .int (I hi)] M fun r N => ∃ v, r = some (.int v) ∧ (RFS M N ∧ RBo (lnPair b n L cnt most fst high snd lo hi g nm on p) v N fun x => RT N b n L x.2 ∧ RI N x.1.1 x.1.2.1 x.1.2.2) := by
  obtain ⟨k, hk⟩ := Nn e0.1
  have eM := hI.1 cnt (by omega)
  rw [hk] at eM
  apply e_R_pair
  intro At step
  rw [ixI (by omega) (by omega), Int.toNat_natCast, eM, I_ne (by omega) (by omega) (by omega) (by omega)]
  refine ⟨inRI (by omega) (by omega) (by omega), fun q => ?_, fun q => ?_⟩
  · refine r_badT h (by decide) fun N hF hL hN => ⟨Or.inl rfl, _, rfl, RFS_b RFS_refl hF (by rw [hL]), RBe (e := (4, tkS b n L p)) ?_ rfl hN⟩
    unfold lnPair
    rw [if_pos (by omega)]
  have hne : ¬ g cnt = (most : Int) := by omega
  have hk2 : k < most := by omega
  have a1 := (tk_four (b := b) (L := L) h.1.2.2.2.1).1.2.1
  refine q_non (r_nextT h) ?_
  rintro N6 ⟨f1, t1⟩
  have I6 := RI_n hI f1
  have F6 := RFS_n RFS_refl f1
  have eLP : ∀ R, pSee b n L 0 high (tkN b n L p) = R → lnPair b n L cnt most fst high snd lo hi g nm on p = bnd R fun x => if ∃ i, i < k ∧ g (fst + i) = x then .error (3, tkS b n L (tkN b n L p)) else bnd (pNum b n L lo hi (tkN b n L (tkN b n L p))) fun y => .ok ((upf (upf (upf g (fst + k) x) (snd + k) y.1) cnt (g cnt + 1), nm, on), y.2) := by
    intro R hR
    unfold lnPair
    rw [if_neg hne, hR, hk, Int.toNat_natCast]
  have pN := fun (x : Int) (hx : pSee b n L 0 high (tkN b n L p) = .ok x) => show pNum b n L 0 high (tkN b n L p) = .ok (x, tkN b n L (tkN b n L p)) from bnd_o hx
  have sN : pSee b n L 0 high (tkN b n L p) = if tkK b n L (tkN b n L p) = 3 then (if tkV b n (tkN b n L p) < 0 ∨ high < tkV b n (tkN b n L p) then .error (2, tkS b n L (tkN b n L p)) else .ok (tkV b n (tkN b n L p))) else .error (1, tkS b n L (tkN b n L p)) := rfl
  obtain ⟨k1, -, k3, -⟩ := tk_four (b := b) (L := L) a1
  have a11 := t1.2.1.2.2.1
  have a14 := t1.2.1.2.2.2.2
  generalize tkN b n L p = p1 at *
  generalize tkN b n L p1 = p2 at *
  generalize tkV b n p1 = x at *
  generalize tkK b n L p1 = kk at *
  obtain ⟨e1, e2, e3, e4, e5⟩ := rkT_e k1.2.2.1
  rw [a11, I_ne (by omega) (by omega) (by omega) (by omega)]
  refine ⟨fun q3 => ?_, fun q3 => ?_⟩
  · have q4 : kk = 3 := by omega
    have b3 := k3 q4
    have a14 := a14 (Or.inl q4)
    rw [a14, I_lt (by omega) (by omega) (by omega) (by omega)]
    refine ⟨fun z => ?_, fun z => ?_⟩
    · refine r_badT t1 (by decide) fun N hF hL hN => ⟨Or.inl rfl, _, rfl, RFS_b F6 hF (by rw [hL]), RBe (e := (2, tkS b n L p1)) ?_ rfl hN⟩
      rw [eLP _ sN, if_pos q4, if_pos (Or.inr z)]
      rfl
    have hx : pSee b n L 0 high p1 = .ok x := by rw [sN, if_pos q4, if_neg (by omega)]
    have eL2 := eLP _ hx
    have key : ∀ m i : Nat, i + m = k → (∀ j, j < i → g (fst + j) ≠ x) → At 56 [.ref 400, .int (I cnt), .retAddr 0, .int (I fst), .int (I high), .int (I snd), .int (I lo), .int (I hi), .int (I k), .int (I i)] [] N6 := by
      intro m
      induction m with
      | zero =>
        intro i hi3 hj
        have : i = k := by omega
        subst this
        apply s_R_pair_56 step
        rw [I_lt (by omega) (by omega) (by omega) (by omega)]
        refine ⟨fun z => absurd z (by omega), fun _ => ?_⟩
        have nex : ¬ ∃ j, j < i ∧ g (fst + j) = x := fun ⟨j, h1, h2⟩ => hj j h1 h2
        rw [show I (fst : Int) + I (i : Int) = I ((fst + i : Nat) : Int) by rw [I_add]; exact congrArg I (by omega), show I (snd : Int) + I (i : Int) = I ((snd + i : Nat) : Int) by rw [I_add]; exact congrArg I (by omega)]
        refine q_int (r_puts t1 (by omega) (by decide) hh) ?_
        rintro v N24 ⟨f5, l5, e6, e7⟩
        have F24 := RFS_p F6 f5 l5
        obtain ⟨rfl, t5, s5⟩ := e7 _ (pN x hx)
        refine ⟨fun z => absurd z (by decide), fun _ => ?_⟩
        refine q_int (r_puts t5 (by omega) hl hi2) ?_
        rintro v N29 ⟨f6, l6, e8, e9⟩
        have F29 := RFS_p F24 f6 l6
        rcases pe_cases (pNum b n L lo hi p2) with ⟨e, he⟩ | ⟨y, hy⟩
        · obtain ⟨rfl, u⟩ := e8 e he
          refine ⟨fun _ => ⟨_, rfl, F29, RBe (e := e) ?_ rfl u⟩, fun z => absurd rfl z⟩
          rw [eL2, bnd_o (rfl : (Except.ok x : PE Int) = .ok x), if_neg nex, bnd_e he]
        obtain ⟨rfl, t6, s6⟩ := e9 y hy
        have s29 : N29.1 403 = upf (upf (M.1 403) (fst + i) (I x)) (snd + i) (I y.1) := by rw [s6, s5, (f1.1 403 (by decide) (by decide)).1]
        have s30 : N29.1 403 cnt = I (i : Int) := by
          rw [s29, upf_ne (by omega), upf_ne (by omega)]
          exact eM
        rw [ixI (by omega) (by omega), Int.toNat_natCast, s30]
        refine ⟨fun z => absurd z (by decide), fun _ => ⟨inRI (by omega) (by omega) (by omega), inRI (by omega) (by omega) (by omega), _, rfl, RFS_i F29, RBk (x := ((upf (upf (upf g (fst + i) x) (snd + i) y.1) cnt (g cnt + 1), nm, on), y.2)) ?_ rfl ⟨RT_fr t6 (fun k hk => mI_n1 (by decide)) (mI_fn (by decide)) rfl rfl, ?_⟩⟩⟩
        · rw [eL2, bnd_o (rfl : (Except.ok x : PE Int) = .ok x), if_neg nex, bnd_o hy]
        · rw [hk, I_add]
          dsimp only
          refine ⟨?_, RNm_same hI.2.1 ?_ ?_ ?_ ?_, ?_⟩
          · rw [mI_up, s29]
            exact upfI (upfI (upfI hI.1 _ _) _ _) _ _
          · show N29.2.1 405 = _
            rw [l6, l5, (f1.1 405 (by decide) (by decide)).2]
          · simp (disch := omega) only [upf_ne]
          · simp (disch := omega) only [upf_ne]
          · simp (disch := omega) only [upf_ne]
          · rw [mI_fn (by decide), f6.2.1 20 (by decide), f5.2.1 20 (by decide), f1.2.1 20 (by decide)]
            exact hI.2.2
      | succ m ih =>
        intro i hi3 hj
        apply s_R_pair_56 step
        have b1 := eb i (by omega)
        have e6 : N6.1 403 (fst + i) = I (g (fst + i)) := I6.1 _ (by omega)
        rw [I_lt (by omega) (by omega) (by omega) (by omega), show I (fst : Int) + I (i : Int) = I ((fst + i : Nat) : Int) by rw [I_add]; exact congrArg I (by omega), ixI (a := ((fst + i : Nat) : Int)) (by omega) (by omega), Int.toNat_natCast, e6, a14, I_ne (by omega) (by omega) (by omega) (by omega), I_add]
        refine ⟨fun _ => ⟨inRI (by omega) (by omega) (by omega), fun z => ?_, fun z => ih (i + 1) (by omega) fun j hj2 => ?_⟩, fun z => absurd (by omega) z⟩
        · refine r_badT t1 (by decide) fun N hF hL hN => ⟨Or.inl rfl, _, rfl, RFS_b F6 hF (by rw [hL]), RBe (e := (3, tkS b n L p1)) ?_ rfl hN⟩
          rw [eL2, bnd_o (rfl : (Except.ok x : PE Int) = .ok x), if_pos ⟨i, by omega, z⟩]
        · by_cases e : j = i
          · rw [e]
            exact z
          · exact hj j (by omega)
    exact key k 0 (by omega) fun j hj => absurd hj (by omega)
  · refine r_badT t1 (by decide) fun N hF hL hN => ⟨Or.inl rfl, _, rfl, RFS_b F6 hF (by rw [hL]), RBe (e := (1, tkS b n L p1)) ?_ rfl hN⟩
    rw [eLP _ sN, if_neg (by omega)]
    rfl
theorem r_once {d k to : Nat} {lo hi : Int} (h : RT M b n L p) (hI : RI M g nm on) (hk : k < 10) (hon : on < 1024) (ht : 2 < to ∧ to < 89) (hl : 0 ≤ lo ∧ lo < 1000) (hh : 0 ≤ hi ∧ hi < 1000) : EvQ (d + 5) 80 [.ref 400, .int (I k), .int (I to), .int (I lo), .int (I hi)] M fun r N => ∃ v, r = some (.int v) ∧ (RFS M N ∧ RBo (lnOnce b n L k to lo hi g nm on p) v N fun x => RT N b n L x.2 ∧ RI N x.1.1 x.1.2.1 x.1.2.2) := by
  have b0 := bt_lt on k
  apply e_R_once
  intro At _
  rw [hI.2.2]
  refine ⟨_, _, v_bitOf hon hk, fun z => ?_, fun z => ?_⟩
  · rw [bI0] at z
    rw [hI.2.2, shl0 k hk, I_or]
    have h20 : RT (sI M 400 20 (I ((on ||| 2 ^ k : Nat) : Int))) b n L p := RT_fr h (fun j hj => mI_n2 (by omega)) (mI_fn (by decide)) rfl rfl
    refine q_non (r_nextT h20) ?_
    rintro N6 ⟨f1, t1⟩
    have F6 := RFS_n (RFS_f (k := 20) (v := I ((on ||| 2 ^ k : Nat) : Int)) (RFS_refl (M := M)) (by decide)) f1
    refine q_int (r_puts t1 (by omega) hl hh) ?_
    rintro v N8 ⟨f5, l5, e6, e7⟩
    refine ⟨RBo_01 ⟨e6, e7⟩, v, rfl, RFS_p F6 f5 l5, ?_⟩
    rcases pe_cases (pNum b n L lo hi (tkN b n L p)) with ⟨e, he⟩ | ⟨y, hy⟩
    · obtain ⟨rfl, u⟩ := e6 e he
      refine RBe (e := e) ?_ rfl u
      unfold lnOnce
      rw [if_neg z, bnd_e he]
    · obtain ⟨rfl, t6, s6⟩ := e7 y hy
      refine RBk (x := ((upf g to y.1, nm, on ||| 2 ^ k), y.2)) ?_ rfl ⟨t6, ?_⟩
      · unfold lnOnce
        rw [if_neg z, bnd_o hy]
      · dsimp only
        refine ⟨?_, RNm_same hI.2.1 ?_ ?_ ?_ ?_, ?_⟩
        · rw [s6, (f1.1 403 (by decide) (by decide)).1, mI_fn (by decide)]
          exact upfI hI.1 _ _
        · rw [l5, (f1.1 405 (by decide) (by decide)).2]
          rfl
        · rw [upf_ne (by omega)]
        · rw [upf_ne (by omega)]
        · rw [upf_ne (by omega)]
        · rw [f5.2.1 20 (by decide), f1.2.1 20 (by decide), mI_eq]
  · have z2 : bt on k = 1 := Classical.byContradiction fun y => z (by rw [bI0]; exact y)
    refine r_badT h (by decide) fun N hF hL hN => ⟨Or.inl rfl, _, rfl, RFS_b RFS_refl hF (by rw [hL]), RBe (e := (3, tkS b n L p)) ?_ rfl hN⟩
    unfold lnOnce
    rw [if_pos z2]
end RLO
