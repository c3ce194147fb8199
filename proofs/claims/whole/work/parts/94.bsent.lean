/-! ===== sentence(): the class ===== -/
def ss00 : SS := (fun _ => (0, 0, 0), 0, 0)
def senR (b : Nat → Nat) (n : Nat) (g : Nat → Int) (nm : Nat → List Nat) : PE SS := bnd (rdS b n 200 g nm (4 * n + 5) 2 1 ss00 0) fun x => if tkK b n 200 x.2 = 0 then .ok x.1 else .error (1, tkS b n 200 x.2)
def senA (R : PE SS) : Int := match R with
  | .error e => -1 - e.2
  | .ok st => (st.2.2 : Int)
def cd3 (c : Int × Int × Int) (j : Nat) : Int := if j = 0 then c.1 else if j = 1 then c.2.1 else c.2.2
/-- the numbers with a sentence -/
def senG (st : SS) (g : Nat → Int) : Nat → Int := fun k => if k = 122 then (st.2.1 : Int) else if 123 ≤ k ∧ k < 123 + 3 * st.2.1 then cd3 (st.1 ((k - 123) / 3)) ((k - 123) % 3) else g k
theorem senG_lo {st : SS} {g : Nat → Int} {k : Nat} (h : k < 122) : senG st g k = g k := by
  unfold senG
  rw [if_neg (by omega), if_neg (by omega)]
theorem senG_122 {st : SS} {g : Nat → Int} : senG st g 122 = (st.2.1 : Int) := rfl
theorem senG_cd {st : SS} {g : Nat → Int} {i : Nat} (h : i < st.2.1) : cdC (senG st g) i = (st.1 i).1 ∧ cdS (senG st g) i = (st.1 i).2.1 ∧ cdN (senG st g) i = (st.1 i).2.2 := by
  unfold cdC cdS cdN senG
  refine ⟨?_, ?_, ?_⟩
  · rw [if_neg (by omega), if_pos (by omega), show (123 + 3 * i - 123) / 3 = i by omega, show (123 + 3 * i - 123) % 3 = 0 by omega]
    rfl
  · rw [if_neg (by omega), if_pos (by omega), show (124 + 3 * i - 123) / 3 = i by omega, show (124 + 3 * i - 123) % 3 = 1 by omega]
    rfl
  · rw [if_neg (by omega), if_pos (by omega), show (125 + 3 * i - 123) / 3 = i by omega, show (125 + 3 * i - 123) % 3 = 2 by omega]
    rfl
theorem senG_dp {st : SS} {g : Nat → Int} : ∀ i : Nat, i ≤ st.2.1 → dpG (senG st g) i = dpS st.1 i
  | 0, _ => rfl
  | i + 1, h => by
    rw [dpG_s, dpS_s, (senG_cd (g := g) (show i < st.2.1 by omega)).1, senG_dp i (by omega)]
theorem senG_ok {st : SS} {g : Nat → Int} (hs : RGs g) (hd : RGd g) (hn : RN g) (h : SP st) (hD : dpS st.1 st.2.1 = 1) : RGs (senG st g) ∧ RGd (senG st g) ∧ RN (senG st g) ∧ SG (senG st g) := by
  obtain ⟨h1, h2, h3, h4⟩ := h
  refine ⟨RGs_lo (fun i hi => senG_lo (by omega)) hs, hd.congr fun j hj => senG_lo hj, hn.congr fun j hj => senG_lo hj, ⟨?_, fun _ => ?_, fun i hi => ?_⟩⟩
  · rw [senG_122]
    omega
  · rw [senG_122, Int.toNat_natCast, senG_dp _ (Nat.le_refl _), hD]
  · rw [senG_122] at hi
    obtain ⟨c1, c2, c3⟩ := senG_cd (g := g) (show i < st.2.1 by omega)
    rw [c1, c2, c3, senG_dp i (by omega)]
    exact h3 i (by omega)
theorem CSq_sen {M : Mm} {o : Nat} {st : SS} {g : Nat → Int} (h : SQ M o st) (h0 : 0 < st.2.1) (h1 : 0 < st.2.2) (h2 : st.2.2 < 1000) : CSq M o (senG st g) := by
  obtain ⟨x1, x2, x3⟩ := h
  refine ⟨by rw [senG_122]; exact x1, fun i hi => ?_, ?_⟩
  · rw [senG_122] at hi
    obtain ⟨c1, c2, c3⟩ := senG_cd (g := g) (show i < st.2.1 by omega)
    rw [c1, c2, c3]
    exact x3 i (by omega)
  · rw [x2, senG_122, I_ne (by omega) (by omega) (by omega) (by omega)]
    omega
theorem sen_ok {b : Nat → Nat} {n : Nat} {g : Nat → Int} {nm : Nat → List Nat} {st : SS} (hs : RGs g) (h : senR b n g nm = .ok st) : SP st ∧ dpS st.1 st.2.1 = 1 ∧ 0 < st.2.1 ∧ 0 < st.2.2 := by
  obtain ⟨x, h1, h2⟩ := bnd_ok h
  have s0 : SP ss00 := ⟨Nat.le_refl _, by decide, fun i hi => absurd hi (by show ¬ i < 0; omega), Nat.le_refl _⟩
  obtain ⟨q1, q2, q3, q4, q5, q6⟩ := (sR_ok hs _ 2 1 ss00 0 x (Nat.zero_le _) s0 h1).1 (Or.inr (Or.inr rfl))
  by_cases c : tkK b n 200 x.2 = 0
  · rw [if_pos c] at h2
    cases h2
    have e : dpS x.1.1 x.1.2.1 = 1 := q4
    refine ⟨q1, e, ?_, q3⟩
    rcases Nat.eq_zero_or_pos x.1.2.1 with z | z
    · rw [z] at e
      exact absurd (show (0 : Nat) = 1 from e) (by decide)
    · exact z
  · rw [if_neg c] at h2
    cases h2
section BSE
variable {M : Mm} {b : Nat → Nat} {n ps so so' : Nat} {g : Nat → Int} {nm : Nat → List Nat}
/-- what sentence() leaves as it was -/
def FBS (o : Nat) (M N : Mm) : Prop := (∀ a, a ≠ 1 → a ≠ 2 → ¬ (o ≤ a ∧ a < o + 5) → N.1 a = M.1 a ∧ N.2.1 a = M.2.1 a ∧ N.2.2 a = M.2.2 a) ∧ (∀ k, k ≠ 12 → N.1 1 k = M.1 1 k) ∧ N.2.1 1 = M.2.1 1 ∧ (∀ k, k ≠ 7 → k ≠ 8 → N.2.2 1 k = M.2.2 1 k)
theorem c_readSen {d : Nat} (h : CT M b n 200 0) (hn : CN0 M ps g nm) (ho : Se so) (hv : VE M so) : EvQ (d + 33) 195 [.ref so, .ref 2, .ref ps] M fun r N => r = none ∧ Fr2 2 3 so (so + 5) M N ∧ VE N so ∧ (∀ e, senR b n g nm = .error e → cFl N e) ∧ ∀ st, senR b n g nm = .ok st → N.1 2 9 = I 0 ∧ SQ N so st := by
  have hlo := (Se_al ho).2
  have hp3 := St_lo hn.1
  have hpo := St_Se hn.1 ho
  generalize hR : senR b n g nm = R
  unfold senR at hR
  apply e_Sentence_read ho hn.1
  intro At _
  refine ⟨_, c_clearQ ho, ?_⟩
  have F1 : Fr2 2 3 so (so + 5) M (sI (sI M so 4 (I 0)) so 5 (I 0)) := Fr.two' ((Fr.sI (by omega) (by omega)).trans (Fr.sI (by omega) (by omega)))
  have t1 : CT (sI (sI M so 4 (I 0)) so 5 (I 0)) b n 200 0 := CT_fr h (by rw [mI_fn (by omega), mI_fn (by omega)]) (by rw [mI_fn (by omega), mI_fn (by omega)]) rfl rfl
  have q1 : SQ (sI (sI M so 4 (I 0)) so 5 (I 0)) so ss00 := ⟨by rw [mI_n2 (by decide), mI_eq]; rfl, by rw [mI_eq]; rfl, fun i hi => absurd hi (by show ¬ i < 0; omega)⟩
  have v1 : VE (sI (sI M so 4 (I 0)) so 5 (I 0)) so := hv
  have s0 : SP ss00 := ⟨Nat.le_refl _, by decide, fun i hi => absurd hi (by show ¬ i < 0; omega), Nat.le_refl _⟩
  have n1 := CN0_s hn ho F1
  generalize sI (sI M so 4 (I 0)) so 5 (I 0) = N1 at *
  have cs := (c_sent (b := b) (n := n) (L := 200) (ps := ps) (g := g) (nm := nm) ho (4 * n + 6) (4 * n + 5) (by omega)).2.2
  refine q_int (cs (d + 32) 1 0 ss00 N1 ⟨t1, n1, q1, v1, s0⟩ (by decide) (by decide) (by omega) (by omega)) ?_
  rintro v N3 ⟨f3, v3, e1, e2⟩
  have F3 := F1.trans f3
  rcases pe_cases (rdS b n 200 g nm (4 * n + 5) 2 1 ss00 0) with ⟨e, he⟩ | ⟨x, hx⟩
  · obtain ⟨rfl, u⟩ := e1 e he
    rw [bnd_e he] at hR
    exact ⟨fun _ => ⟨rfl, F3, v3, fun e' he' => by rw [← hR] at he'; cases he'; exact u, fun st hst => by rw [← hR] at hst; cases hst⟩, fun y => absurd rfl y⟩
  obtain ⟨rfl, t3, q3⟩ := e2 x hx
  rw [bnd_o hx] at hR
  refine ⟨fun y => absurd y (by decide), fun _ => ?_⟩
  have k4 := (tk_four (b := b) (L := 200) t3.1.2.2.2.1).1.2.2.1
  rw [t3.2.2.2.1]
  by_cases c : tkK b n 200 x.2 = 0
  · rw [if_pos c] at hR
    rw [c]
    refine ⟨fun _ => ⟨rfl, F3, v3, fun e' he' => (by rw [← hR] at he'; cases he'), fun st hst => ?_⟩, fun y => absurd rfl y⟩
    rw [← hR] at hst
    cases hst
    exact ⟨t3.1.2.2.1, q3⟩
  · rw [if_neg c] at hR
    rw [I_ne (by omega) (by omega) (by omega) (by omega)]
    refine ⟨fun y => absurd (by omega) c, fun _ => ?_⟩
    refine c_failT t3 (by decide) fun N hF hN => ⟨rfl, F3.trans (Fr.two hF), VE_2 v3 ho hF, fun e' he' => ?_, fun st hst => ?_⟩
    · rw [← hR] at he'
      cases he'
      exact hN
    · rw [← hR] at hst
      cases hst
theorem b_sentence {d : Nat} (hp : ps = 100 ∨ ps = 120) (h2 : M.2.2 1 2 = ps) (hn : CN0 M ps g nm) (hT : TC M n b) (ho : so' = 300 ∨ so' = 310) (h7 : M.2.2 1 7 = so) (h8 : M.2.2 1 8 = so') (hv : VE M so') : EvQ (d + 34) 40 [.ref 1] M fun r N => r = some (.int (I (senA (senR b n g nm)))) ∧ TC N 0 b ∧ VE N so' ∧ FBS so' M N ∧
    (∀ e, senR b n g nm = .error e → N.1 1 12 = I e.1 ∧ N.2.2 1 = M.2.2 1) ∧
    ∀ st, senR b n g nm = .ok st → N.1 1 12 = I 0 ∧ N.2.2 1 7 = so' ∧ N.2.2 1 8 = so ∧ SQ N so' st := by
  have hse : Se so' := by rcases ho with rfl | rfl <;> simp [Se]
  have hlo := (Se_al hse).2
  have h940 := hT.2.1
  generalize hR : senR b n g nm = R
  apply e_B_sentence
  intro At _
  refine q_non (c_tpBegin (L := 200) (d := d + 29) hT (by decide)) ?_
  rintro N1 ⟨f1, t1⟩
  rw [(f1 1 (by omega)).2.2, h8, h2]
  refine ⟨hse, ?_⟩
  refine q_non (c_readSen (d := d) t1 (CN0_2 hn f1) hse (VE_2 hv hse f1)) ?_
  rintro N3 ⟨f3, v3, e1, e2⟩
  rw [hR] at e1 e2
  have F3 := (Fr.two (c := so') (e := so' + 5) f1).trans f3
  have F1' := F3 1 (by omega) (by omega)
  have tc : ∀ N : Mm, N.1 2 1 = I 0 → TC N 0 b := fun N a1 => ⟨a1, by omega, fun j hj => absurd hj (by omega)⟩
  have m1 : ∀ v a, a ≠ 1 → a ≠ 2 → (sI (sI N3 2 1 (I 0)) 1 12 v).1 a = N3.1 a := fun v a q1 q2 => by rw [mI_fn q1, mI_fn q2]
  have m2 : ∀ v, (sI (sI N3 2 1 (I 0)) 1 12 v).1 2 1 = I 0 := fun v => by rw [mI_n1 (by decide), mI_eq]
  have m3 : ∀ v j, j ≠ 12 → (sI (sI N3 2 1 (I 0)) 1 12 v).1 1 j = M.1 1 j := fun v j hj => by rw [mI_n2 hj, mI_n1 (by decide), F1'.1]
  have fbs : ∀ (v : Int32) (N : Mm), N.1 = (sI (sI N3 2 1 (I 0)) 1 12 v).1 → N.2.1 = N3.2.1 → (∀ a, a ≠ 1 → N.2.2 a = N3.2.2 a) → (∀ k, k ≠ 7 → k ≠ 8 → N.2.2 1 k = N3.2.2 1 k) → FBS so' M N := by
    intro v N x1 x2 x3 x4
    refine ⟨fun a a1 a2 a3 => ⟨?_, ?_, ?_⟩, fun k hk => ?_, ?_, fun k k7 k8 => ?_⟩
    · rw [x1, m1 v a a1 a2, (F3 a (by omega) (by omega)).1]
    · rw [x2, (F3 a (by omega) (by omega)).2.1]
    · rw [x3 a a1, (F3 a (by omega) (by omega)).2.2]
    · rw [x1, m3 v k hk]
    · rw [x2, F1'.2.1]
    · rw [x4 k k7 k8, F1'.2.2]
  rcases pe_cases R with ⟨e, he⟩ | ⟨st, hst⟩
  · obtain ⟨c1, c2, c3, c4, c5⟩ := e1 e he
    rw [c1, I_ne (by omega) (by omega) (by omega) (by omega), c2, I_sub]
    refine ⟨fun y => absurd y (by omega), fun _ => ⟨by rw [he]; rfl, tc _ (m2 _), v3, fbs _ _ rfl rfl (fun _ _ => rfl) (fun _ _ _ => rfl), fun e' he' => ?_, fun st hst => ?_⟩⟩
    · rw [he] at he'
      cases he'
      exact ⟨mI_eq, F1'.2.2⟩
    · rw [he] at hst
      cases hst
  · obtain ⟨c1, c2⟩ := e2 st hst
    have g7 : N3.2.2 1 7 = so := by rw [F1'.2.2, h7]
    have g8 : N3.2.2 1 8 = so' := by rw [F1'.2.2, h8]
    rw [c1, g7, g8]
    refine ⟨fun _ => ⟨hse, ?_, tc _ (m2 (I 0)), ?_, fbs (I 0) _ rfl rfl (fun a ha => ?_) (fun k k7 k8 => ?_), fun e he => ?_, fun st' hst' => ?_⟩, fun y => absurd rfl y⟩
    · rw [m1 _ so' (by omega) (by omega), c2.2.1, hst]
      rfl
    · refine VE_fr v3 ?_
      show up2 (up2 N3.2.2 1 8 so) 1 7 so' (so' + 1) = _
      rw [up2_ne (by omega), up2_ne (by omega)]
    · show up2 (up2 N3.2.2 1 8 so) 1 7 so' a = _
      rw [up2_ne ha, up2_ne ha]
    · show up2 (up2 N3.2.2 1 8 so) 1 7 so' 1 k = _
      rw [up2_eq, upf_ne k7, up2_eq, upf_ne k8]
    · rw [hst] at he
      cases he
    · rw [hst] at hst'
      cases hst'
      refine ⟨(by show (sI (sI N3 2 1 (I 0)) 1 12 (I 0)).1 1 12 = _; rw [mI_eq]), ?_, ?_, SQ_fr c2 fun a a1 a2 => ⟨m1 _ a (by omega) (by omega), ?_⟩⟩
      · show up2 (up2 N3.2.2 1 8 so) 1 7 so' 1 7 = _
        rw [up2_eq, upf_eq]
      · show up2 (up2 N3.2.2 1 8 so) 1 7 so' 1 8 = _
        rw [up2_eq, upf_ne (by decide), up2_eq, upf_eq]
      · show up2 (up2 N3.2.2 1 8 so) 1 7 so' a = _
        rw [up2_ne (by omega), up2_ne (by omega)]
end BSE
