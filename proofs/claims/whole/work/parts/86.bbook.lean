/-! ===== book() and told(): the class ===== -/
def bkR (b : Nat → Nat) (n : Nat) (g : Nat → Int) (nm : Nat → List Nat) : PE (Nat × (Nat → BL)) := bkS b n 400 g nm (n + 1) 0 bk00 0
def bookV (g : Nat → Int) (R : PE (Nat × (Nat → BL))) : Int := match R with
  | .error e => -2 - e.2
  | .ok x => if (jdG x.2 x.1 g).1 = 0 then -1 else ((jdG x.2 x.1 g).2.1 : Int)
def bookA (g : Nat → Int) (R : PE (Nat × (Nat → BL))) (lv : Int) : Int := if 0 ≤ lv ∧ lv ≤ 1 then bookV g R else -1000
def bookL (lv : Int) (l : Nat) : Bool := decide (lv = 1 ∧ 0 < l)
def toldA (tk : Nat) (tv : Nat → Int) (w : Int) : Int := if tk = 1 ∧ 0 ≤ w ∧ w ≤ 3 then tv w.toNat else -1
/-- what book() leaves as it was -/
def FBB (M N : Mm) : Prop := (∀ a, a ≠ 1 → a ≠ 2 → ¬ (20 ≤ a ∧ a < 22) → ¬ (30 ≤ a ∧ a < 35) → ¬ (200 ≤ a ∧ a < 250) → N.1 a = M.1 a ∧ N.2.1 a = M.2.1 a ∧ N.2.2 a = M.2.2 a) ∧ (∀ k, k ≠ 12 → N.1 1 k = M.1 1 k) ∧ N.2.1 1 = M.2.1 1 ∧ N.2.2 1 = M.2.2 1
theorem FBB_fr {M N O : Mm} (h : FBB M N) (hf : ∀ a, ¬ (20 ≤ a ∧ a < 22) → ¬ (30 ≤ a ∧ a < 35) → ¬ (200 ≤ a ∧ a < 250) → a ≠ 2 → O.1 a = N.1 a ∧ O.2.1 a = N.2.1 a ∧ O.2.2 a = N.2.2 a) : FBB M O := by
  obtain ⟨h1, h2, h3, h4⟩ := h
  obtain ⟨f1, f2, f3⟩ := hf 1 (by omega) (by omega) (by omega) (by omega)
  refine ⟨fun a a1 a2 a3 a4 a5 => ?_, fun k hk => ?_, f2.trans h3, f3.trans h4⟩
  · obtain ⟨b1, b2, b3⟩ := hf a a3 a4 a5 a2
    obtain ⟨c1, c2, c3⟩ := h1 a a1 a2 a3 a4 a5
    exact ⟨b1.trans c1, b2.trans c2, b3.trans c3⟩
  · rw [f1]
    exact h2 k hk
section BBK
variable {M : Mm} {b : Nat → Nat} {n ps k : Nat} {g : Nat → Int} {nm : Nat → List Nat} {us : Nat → Nat → Int}
theorem b_told {d tk : Nat} {tv : Nat → Int} (h : CTd M tk tv) (ht : tk ≤ 1) {w : Int} (hw : (-2147483648 ≤ w ∧ w < 2147483648)) : EvQ (d + 2) 39 [.ref 1, .int (I w)] M fun r N => r = some (.int (I (toldA tk tv w))) ∧ N = M := by
  have e : Ev (d + 1) 178 [.ref 30, .int (I w)] M (some (.int (I (toldA tk tv w)))) M := by
    apply Ev.ofQ
    apply e_Book_tell
    intro At _
    obtain ⟨h1, h2⟩ := h
    unfold toldA
    rw [h1, I_ne (by omega) (by omega) (by omega) (by omega)]
    refine ⟨fun q => ?_, fun q => ?_⟩
    · rw [if_neg (by omega)]
      exact ⟨rfl, rfl⟩
    · obtain ⟨u0, u1, u2, u3⟩ := h2 (by omega)
      rw [u0, u1, u2, u3, I_ne (by omega) (by omega) (by omega) (by omega), I_ne (by omega) (by omega) (by omega) (by omega), I_ne (by omega) (by omega) (by omega) (by omega), I_ne (by omega) (by omega) (by omega) (by omega)]
      refine ⟨fun z => ?_, fun z => ?_, fun z => ?_, fun z => ?_, fun z => ?_⟩
      · rw [if_pos (by omega), z]
        exact ⟨rfl, rfl⟩
      · rw [if_pos (by omega), z]
        exact ⟨rfl, rfl⟩
      · rw [if_pos (by omega), z]
        exact ⟨rfl, rfl⟩
      · rw [if_pos (by omega), z]
        exact ⟨rfl, rfl⟩
      · rw [if_neg (by omega)]
        exact ⟨rfl, rfl⟩
  apply e_B_told
  intro At _
  exact ⟨_, _, e, rfl, rfl⟩
theorem b_book {d : Nat} (h : CU M ps g k us) (hnm : CNm M ps g nm) (hmo : NMo g nm) (hT : TC M n b) {lv : Int} (hlv : (-2147483648 ≤ lv ∧ lv < 2147483648)) : EvQ (d + 9) 38 [.ref 1, .int (I lv)] M fun r N => r = some (.int (I (bookA g (bkR b n g nm) lv))) ∧ (¬ (0 ≤ lv ∧ lv ≤ 1) → N = M) ∧ (0 ≤ lv ∧ lv ≤ 1 → TC N 0 b ∧ FBB M N ∧
    (∀ e, bkR b n g nm = .error e → N.1 1 12 = I e.1 ∧ CU N ps g k us ∧ ∀ j, j ≠ 4 → N.1 30 j = M.1 30 j) ∧
    ∀ x, bkR b n g nm = .ok x → N.1 1 12 = I 0 ∧ CU N ps (if lv = 1 then (jdG x.2 x.1 g).2.2 else g) (keptN (bookL lv (jdG x.2 x.1 g).2.1) k) (keptU (bookL lv (jdG x.2 x.1 g).2.1) g us) ∧ CTd N 1 (tdG (jdG x.2 x.1 g).1 (jdG x.2 x.1 g).2.1 (jdG x.2 x.1 g).2.2)) := by
  obtain ⟨⟨hp, ep, hr, hc, hs, hd, hn⟩, ⟨nx, hP⟩, hU⟩ := h
  have hlo := St_lo hp
  have hfar := St_far hp
  have h940 := hT.2.1
  have ho5 : Sa 205 := by simp [Sa]
  generalize hR : bkR b n g nm = R
  apply e_B_book
  intro At _
  refine ⟨_, _, c_isWithin hlv (by omega) (by omega), fun z => ?_, fun z => ?_⟩
  · rw [bI0] at z
    unfold bookA
    rw [if_neg z]
    exact ⟨rfl, fun _ => rfl, fun y => absurd y z⟩
  have ok : 0 ≤ lv ∧ lv ≤ 1 := Classical.byContradiction fun y => z (by rw [bI0]; exact y)
  have eA : bookA g R lv = bookV g R := if_pos ok
  rw [eA]
  refine q_non (c_tpBegin (L := 400) hT (by decide)) ?_
  rintro N6 ⟨f6, t6⟩
  have ep6 : N6.2.2 1 2 = ps := by rw [(f6 1 (by omega)).2.2]; exact ep
  rw [ep6]
  have hn6 : CN0 N6 ps g nm := CN0_2 ⟨hp, hr, hnm, hs, hmo⟩ f6
  refine q_non (c_readBook t6 hn6) ?_
  rintro N8 ⟨f8, g8, e1, e2⟩
  have F8 : Fr2 2 3 30 35 M N8 := (Fr.two f6).trans f8
  have G8 : ∀ j, j ≠ 4 → N8.1 30 j = M.1 30 j := fun j hj => by rw [g8 j hj, (f6 30 (by omega)).1]
  rw [show bkS b n 400 g nm (n + 1) 0 bk00 0 = R from hR] at e1 e2
  have tc : ∀ N : Mm, N.1 2 1 = I 0 → TC N 0 b := fun N a1 => ⟨a1, by omega, fun j hj => absurd hj (by omega)⟩
  have m1 : ∀ v a, a ≠ 1 → a ≠ 2 → (sI (sI N8 2 1 (I 0)) 1 12 v).1 a = N8.1 a := fun v a q1 q2 => by rw [mI_fn q1, mI_fn q2]
  have m2 : ∀ v, (sI (sI N8 2 1 (I 0)) 1 12 v).1 2 1 = I 0 := fun v => by rw [mI_n1 (by decide), mI_eq]
  have m3 : ∀ v j, j ≠ 12 → (sI (sI N8 2 1 (I 0)) 1 12 v).1 1 j = M.1 1 j := fun v j hj => by rw [mI_n2 hj, mI_n1 (by decide), (F8 1 (by omega) (by omega)).1]
  have m4 : ∀ v, FBB M (sI (sI N8 2 1 (I 0)) 1 12 v) := fun v => ⟨fun a a1 a2 a3 a4 a5 => ⟨by rw [m1 v a a1 a2, (F8 a (by omega) (by omega)).1], (F8 a (by omega) (by omega)).2.1, (F8 a (by omega) (by omega)).2.2⟩, m3 v, (F8 1 (by omega) (by omega)).2.1, (F8 1 (by omega) (by omega)).2.2⟩
  rcases pe_cases R with ⟨e, he⟩ | ⟨x, hx⟩
  · obtain ⟨c1, c2, c3, c4, c5⟩ := e1 e he
    rw [c1, I_ne (by omega) (by omega) (by omega) (by omega), c2, I_sub]
    refine ⟨fun y => absurd y (by omega), fun _ => ⟨by rw [he]; rfl, fun y => absurd ok y, fun _ => ⟨tc _ (m2 _), m4 _, fun e' he' => ?_, fun x hx => ?_⟩⟩⟩
    · rw [he] at he'
      cases he'
      refine ⟨mI_eq, ⟨⟨hp, ?_, hr.of fun a a1 a2 => ?_, hc.of fun a a1 a2 => ?_, hs, hd, hn⟩, ⟨nx, PC.fr hP fun a ha => ?_⟩, hU⟩, fun j hj => ?_⟩
      · show N8.2.2 1 2 = ps
        rw [(F8 1 (by omega) (by omega)).2.2]
        exact ep
      · rw [m1 _ a (by omega) (by omega), (F8 a (by omega) (by omega)).1]
      · rw [m1 _ a (by omega) (by omega), (F8 a (by omega) (by omega)).1]
      · rw [m1 _ a (by omega) (by omega), (F8 a (by omega) (by omega)).1]
      · rw [m1 _ 30 (by omega) (by omega)]
        exact G8 j hj
    · rw [he] at hx
      cases hx
  · obtain ⟨c1, c2, c3, c4⟩ := e2 x hx
    rw [c1]
    refine ⟨fun _ => ?_, fun y => absurd rfl y⟩
    have hc8 : CSt (sI (sI N8 2 1 (I 0)) 1 12 (I 0)) 200 g := hc.of fun a a1 a2 => by rw [m1 _ a (by omega) (by omega), (F8 a (by omega) (by omega)).1]
    have F8' := m4 (I 0)
    have a8 := m1 (I 0)
    have b8 := m2 (I 0)
    have d8 : (sI (sI N8 2 1 (I 0)) 1 12 (I 0)).1 1 12 = I 0 := mI_eq
    have r8 : (sI (sI N8 2 1 (I 0)) 1 12 (I 0)).2.2 = N8.2.2 := rfl
    have k8 : CBk (sI (sI N8 2 1 (I 0)) 1 12 (I 0)) x.1 x.2 := by
      unfold CBk at c2 ⊢
      rw [a8 30 (by omega) (by omega), a8 32 (by omega) (by omega), a8 33 (by omega) (by omega), a8 34 (by omega) (by omega), r8]
      exact c2
    generalize sI (sI N8 2 1 (I 0)) 1 12 (I 0) = N9 at *
    refine q_non (c_stateCopy ho5 Sa200 (by decide) hc8) ?_
    rintro N11 ⟨hc11, f11⟩
    have F11 : FBB M N11 := FBB_fr F8' fun a a1 a2 a3 a4 => f11 a (by omega)
    have ep11 : N11.2.2 1 2 = ps := by rw [F11.2.2.2]; exact ep
    have hr11 : CSr N11 ps g := hr.of fun a a1 a2 => (F11.1 a (by omega) (by omega) (by omega) (by omega) (by omega)).1
    have k11 : CBk N11 x.1 x.2 := by
      unfold CBk at k8 ⊢
      rw [(f11 30 (by omega)).1, (f11 31 (by omega)).2.2, (f11 32 (by omega)).1, (f11 33 (by omega)).1, (f11 34 (by omega)).1]
      exact k8
    rw [ep11]
    refine q_non (c_judge hp hr11 hs hc11 hd hn k11 c3 c4) ?_
    rintro N13 ⟨hc13, td13, f13⟩
    obtain ⟨⟨o1, o2, o3⟩, ⟨o4, o5, o6⟩, o7, o8⟩ := jd_ok (bk := x.2) x.1 0 g hs hd hn (fun j j1 j2 => c4 j (by omega))
    have eV : bookV g R = if (jdG x.2 x.1 g).1 = 0 then -1 else ((jdG x.2 x.1 g).2.1 : Int) := by rw [hx]; rfl
    rw [eV]
    obtain ⟨w6, w7, w8, w9⟩ := td13.2 rfl
    have w6' : N13.1 30 6 = I (jdG x.2 x.1 g).1 := w6
    have w7' : N13.1 30 7 = I ((jdG x.2 x.1 g).2.1 : Nat) := w7
    have xx : ∀ y, R = .ok y → y = x := fun y hy => by rw [hx] at hy; cases hy; rfl
    have nE : ∀ e, ¬ R = .error e := fun e he => by rw [hx] at he; cases he
    change SameO g (jdG x.2 x.1 g).2.2 at o1
    change RGd (jdG x.2 x.1 g).2.2 at o2
    change RN (jdG x.2 x.1 g).2.2 at o3
    change (jdG x.2 x.1 g).2.1 ≤ 0 + x.1 at o5
    change (jdG x.2 x.1 g).2.1 = 0 → (jdG x.2 x.1 g).2.2 = g at o6
    change 0 ≤ (jdG x.2 x.1 g).1 at o7
    change (jdG x.2 x.1 g).1 ≤ 31 at o8
    generalize hz : jdG x.2 x.1 g = J9 at *
    have F13 : FBB M N13 := FBB_fr F11 fun a a1 a2 a3 a4 => f13 a (by omega) (by omega)
    have q13 : N13.1 1 12 = I 0 := by rw [(f13 1 (by omega) (by omega)).1, (f11 1 (by omega)).1, d8]
    have l13 : N13.1 2 1 = I 0 := by rw [(f13 2 (by omega) (by omega)).1, (f11 2 (by omega)).1, b8]
    have p13 : ∀ a, (a = 20 ∨ 200 ≤ a ∧ a < 205 ∨ 210 ≤ a ∧ a < 250) → N13.1 a = M.1 a := fun a ha => by rw [(f13 a (by omega) (by omega)).1, (f11 a (by omega)).1, a8 a (by omega) (by omega), (F8 a (by omega) (by omega)).1]
    have fin : ∀ (N : Mm), N.1 30 = N13.1 30 → N.1 1 12 = I 0 → N.1 2 1 = I 0 → FBB M N → CU N ps (if lv = 1 then J9.2.2 else g) (keptN (bookL lv J9.2.1) k) (keptU (bookL lv J9.2.1) g us) → (((N.1 30 6) = (I 0) → some (Value.int (I (-1))) = some (.int (I (if J9.1 = 0 then -1 else (J9.2.1 : Int)))) ∧ (¬ (0 ≤ lv ∧ lv ≤ 1) → N = M) ∧ (0 ≤ lv ∧ lv ≤ 1 → TC N 0 b ∧ FBB M N ∧ (∀ e, R = .error e → N.1 1 12 = I e.1 ∧ CU N ps g k us ∧ ∀ j, j ≠ 4 → N.1 30 j = M.1 30 j) ∧ ∀ x, R = .ok x → N.1 1 12 = I 0 ∧ CU N ps (if lv = 1 then (jdG x.2 x.1 g).2.2 else g) (keptN (bookL lv (jdG x.2 x.1 g).2.1) k) (keptU (bookL lv (jdG x.2 x.1 g).2.1) g us) ∧ CTd N 1 (tdG (jdG x.2 x.1 g).1 (jdG x.2 x.1 g).2.1 (jdG x.2 x.1 g).2.2))) ∧ (¬ ((N.1 30 6) = (I 0)) → some (Value.int (N.1 30 7)) = some (.int (I (if J9.1 = 0 then -1 else (J9.2.1 : Int)))) ∧ (¬ (0 ≤ lv ∧ lv ≤ 1) → N = M) ∧ (0 ≤ lv ∧ lv ≤ 1 → TC N 0 b ∧ FBB M N ∧ (∀ e, R = .error e → N.1 1 12 = I e.1 ∧ CU N ps g k us ∧ ∀ j, j ≠ 4 → N.1 30 j = M.1 30 j) ∧ ∀ x, R = .ok x → N.1 1 12 = I 0 ∧ CU N ps (if lv = 1 then (jdG x.2 x.1 g).2.2 else g) (keptN (bookL lv (jdG x.2 x.1 g).2.1) k) (keptU (bookL lv (jdG x.2 x.1 g).2.1) g us) ∧ CTd N 1 (tdG (jdG x.2 x.1 g).1 (jdG x.2 x.1 g).2.1 (jdG x.2 x.1 g).2.2)))) := by
      intro N n30 n12 n21 nF nC
      rw [n30, w6', w7', I_ne (by omega) (by omega) (by omega) (by omega)]
      have rest : (¬ (0 ≤ lv ∧ lv ≤ 1) → N = M) ∧ (0 ≤ lv ∧ lv ≤ 1 → TC N 0 b ∧ FBB M N ∧ (∀ e, R = .error e → N.1 1 12 = I e.1 ∧ CU N ps g k us ∧ ∀ j, j ≠ 4 → N13.1 30 j = M.1 30 j) ∧ ∀ x, R = .ok x → N.1 1 12 = I 0 ∧ CU N ps (if lv = 1 then (jdG x.2 x.1 g).2.2 else g) (keptN (bookL lv (jdG x.2 x.1 g).2.1) k) (keptU (bookL lv (jdG x.2 x.1 g).2.1) g us) ∧ CTd N 1 (tdG (jdG x.2 x.1 g).1 (jdG x.2 x.1 g).2.1 (jdG x.2 x.1 g).2.2)) := by
        refine ⟨fun y => absurd ok y, fun _ => ⟨tc N n21, nF, fun e he => absurd he (nE e), fun y hy => ?_⟩⟩
        rw [xx y hy, hz]
        refine ⟨n12, nC, ?_⟩
        unfold CTd at td13 ⊢
        rw [n30]
        exact td13
      refine ⟨fun y => ⟨?_, rest⟩, fun y => ⟨?_, rest⟩⟩
      · rw [if_pos y]
      · rw [if_neg y]
    have stay : bookL lv J9.2.1 = false → (lv = 1 → J9.2.2 = g) → CU N13 ps (if lv = 1 then J9.2.2 else g) (keptN (bookL lv J9.2.1) k) (keptU (bookL lv J9.2.1) g us) := by
      intro hb hg
      have eg : (if lv = 1 then J9.2.2 else g) = g := by
        by_cases c : lv = 1
        · rw [if_pos c, hg c]
        · rw [if_neg c]
      rw [eg, hb]
      refine ⟨⟨hp, by rw [F13.2.2.2]; exact ep, hr.of fun a a1 a2 => (F13.1 a (by omega) (by omega) (by omega) (by omega) (by omega)).1, hc.of fun a a1 a2 => p13 a (by omega), hs, hd, hn⟩, ⟨nx, PC.fr hP fun a ha => p13 a (by omega)⟩, hU⟩
    have hz1 : (0 : Int) ≤ (J9.2.1 : Int) := by omega
    rw [w7', I_ne (by omega) (by omega) (by omega) (by omega), I_lt (by omega) (by omega) (by omega) (by omega)]
    refine ⟨fun q1 => ⟨fun q2 => ?_, fun q2 => ?_⟩, fun q1 => ?_⟩
    · have hP13 : PC N13 nx k us := PC.fr hP fun a ha => p13 a (by omega)
      have hc13' : CSt N13 200 g := hc.of fun a a1 a2 => p13 a (by omega)
      refine q_non (c_keep Sa200 (by decide) hP13 hc13') ?_
      rintro N17 ⟨⟨nx', hP17⟩, f17⟩
      have hc17 : CSt N17 205 J9.2.2 := hc13.of fun a a1 a2 => (f17 a (by omega) (by omega)).1
      refine q_non (c_stateCopy Sa200 ho5 (by decide) hc17) ?_
      rintro N19 ⟨hc19, f19⟩
      have F19 : FBB M N19 := FBB_fr F13 fun a a1 a2 a3 a4 => by
        obtain ⟨x1, x2, x3⟩ := f19 a (by omega)
        obtain ⟨y1, y2, y3⟩ := f17 a (by omega) (by omega)
        exact ⟨x1.trans y1, x2.trans y2, x3.trans y3⟩
      have hb : bookL lv J9.2.1 = true := decide_eq_true ⟨q1, by omega⟩
      refine fin N19 ?_ ?_ ?_ F19 ?_
      · rw [(f19 30 (by omega)).1, (f17 30 (by omega) (by omega)).1]
      · rw [(f19 1 (by omega)).1, (f17 1 (by omega) (by omega)).1]
        exact q13
      · rw [(f19 2 (by omega)).1, (f17 2 (by omega) (by omega)).1]
        exact l13
      · rw [hb, if_pos q1]
        refine ⟨⟨hp, by rw [F19.2.2.2]; exact ep, CSr.same hs (hr.of fun a a1 a2 => (F19.1 a (by omega) (by omega) (by omega) (by omega) (by omega)).1) o1.s, hc19, hs.same o1.s, o2, o3⟩, ⟨nx', PC.fr hP17 fun a ha => (f19 a (by omega)).1⟩, hU.kept hd hn o1⟩
    · have hb : bookL lv J9.2.1 = false := decide_eq_false (fun y => q2 (by omega))
      have fn := fin N13 rfl q13 l13 F13 (stay hb fun _ => o6 (by omega))
      rw [w7'] at fn
      exact fn
    · have hb : bookL lv J9.2.1 = false := decide_eq_false (fun y => q1 y.1)
      have fn := fin N13 rfl q13 l13 F13 (stay hb fun y => absurd y q1)
      rw [w7'] at fn
      exact fn
end BBK
