/-! ===== the constructors' machine: new int[5][7]; calls ===== -/
section CM3
variable {p : Program} {l : Launch} {e : Env} {R : Room} {s : State} {m : MethodId} {args : Array Value} {below : List Frame} {meth : Method} {c : Code} {Q : State → Prop}
variable {D : va_G} {cA : Nat → ClassId} {cc : ByteArray} {nL cn d : Nat} {ini : Bool} {dm0 : List Nat} {ad0 : Nat → Nat}
variable {pc nc ns : Nat} {L S r : List Value} {sup dm : List Nat} {μ : Ki × Kl × Kr} {σ σ' : Kst}
/-- a cell that stands in the heap already, taken into the world -/
theorem take_PD {ad : Nat → Nat} {M : Mm} {A : Nat → Prop} {H : Heap} {q : Nat} {e9 : va_E} (h : CWd D cA ad dm M A H) (hq : va_at D vwCl (q, e9) H) (hA : A q) (hne : ∀ b ∈ dm, ad b ≠ q) : va_P D vwCl (wsC ad cA dm M ++ [(q, e9)]) H ∧ va_D A (wsC ad cA dm M ++ [(q, e9)]) := by
  have hx : ∀ x ∈ wsC ad cA dm M, x.1 ≠ q := fun x hx => by
    obtain ⟨b, hb, rfl⟩ := List.mem_map.mp hx
    exact hne b hb
  refine ⟨h.1.app fun k x hk => by
    have hz : k < 1 := (List.getElem?_eq_some_iff.mp hk).1
    rw [show k = 0 by omega] at hk
    cases hk
    exact hq, va_D.app h.2.1 ⟨fun i j x y hx hy _ => by
    have h1 : i < 1 := (List.getElem?_eq_some_iff.mp hx).1
    have h2 : j < 1 := (List.getElem?_eq_some_iff.mp hy).1
    omega, fun k x hk => by
    have hz : k < 1 := (List.getElem?_eq_some_iff.mp hk).1
    rw [show k = 0 by omega] at hk
    cases hk
    exact hA⟩ fun i j x y hx' hy => by
      have hz : j < 1 := (List.getElem?_eq_some_iff.mp hy).1
      rw [show j = 0 by omega] at hy
      cases hy
      exact hx x (List.mem_of_getElem? hx')⟩
theorem take_row {ad : Nat → Nat} {M : Mm} {A : Nat → Prop} {H : Heap} {a q h0 : Nat} {e9 : va_E} (h : CWd D cA ad dm M A H ∧ (∀ b ∈ dm, ad b < q) ∧ ∀ b ∈ dm, ad b ≠ h0) (ha : a ∉ dm) (ha0 : lay a ≠ 0) (he : ∀ ad' : Nat → Nat, e9 = entC ad' cA M a) (hq : va_at D vwCl (q, e9) H) (hA : A q) (hq0 : q ≠ h0) : ∃ ad' : Nat → Nat, (CWd D cA ad' (dm ++ [a]) M A H ∧ (∀ b ∈ dm ++ [a], ad' b < q + 1) ∧ ∀ b ∈ dm ++ [a], ad' b ≠ h0) ∧ ad' a = q ∧ ∀ b, b ≠ a → ad' b = ad b := by
  obtain ⟨h, hb, h1⟩ := h
  obtain ⟨p1, p2⟩ := take_PD h hq hA (fun b z => by have := hb b z; omega)
  refine ⟨upf ad a q, ⟨h.new ha ha0 (he ad) p1 p2, fun b z => ?_, fun b z => ?_⟩, upf_eq, fun b z => upf_ne z⟩
  · by_cases y : b = a
    · subst y; rw [upf_eq]; omega
    · rw [upf_ne y]
      rcases List.mem_append.mp z with z | z
      · have := hb b z; omega
      · exact absurd (List.mem_singleton.mp z) y
  · by_cases y : b = a
    · subst y; rw [upf_eq]; exact hq0
    · rw [upf_ne y]
      rcases List.mem_append.mp z with z | z
      · exact h1 b z
      · exact absurd (List.mem_singleton.mp z) y
/-- the addresses of new rows -/
def mnW (σ : Kst) (a0 a1 a2 a3 a4 a5 : Nat) : Kst := pR (pR (pR (pR (pR σ a0 0 a1) a0 1 a2) a0 2 a3) a0 3 a4) a0 4 a5
theorem mnW_at {σ : Kst} {a0 a1 a2 a3 a4 a5 : Nat} (hz : ∀ k, (mC σ).2.2 a0 k = 0) : (mC (mnW σ a0 a1 a2 a3 a4 a5)).1 = (mC σ).1 ∧ (mC (mnW σ a0 a1 a2 a3 a4 a5)).2.1 = (mC σ).2.1 ∧ (∀ b, b ≠ a0 → (mC (mnW σ a0 a1 a2 a3 a4 a5)).2.2 b = (mC σ).2.2 b) ∧ (mC (mnW σ a0 a1 a2 a3 a4 a5)).2.2 a0 = fun k => if k = 0 then a1 else if k = 1 then a2 else if k = 2 then a3 else if k = 3 then a4 else if k = 4 then a5 else 0 := by
  unfold mnW
  rw [mC_R, mC_R, mC_R, mC_R, mC_R]
  refine ⟨rfl, rfl, fun b hb => ?_, ?_⟩
  · show up2 (up2 (up2 (up2 (up2 (mC σ).2.2 a0 0 a1) a0 1 a2) a0 2 a3) a0 3 a4) a0 4 a5 b = _
    rw [up2_ne hb, up2_ne hb, up2_ne hb, up2_ne hb, up2_ne hb]
  · show up2 (up2 (up2 (up2 (up2 (mC σ).2.2 a0 0 a1) a0 1 a2) a0 2 a3) a0 3 a4) a0 4 a5 a0 = _
    rw [up2_eq, up2_eq, up2_eq, up2_eq, up2_eq]
    funext k
    unfold upf
    by_cases h0 : k = 0
    · subst h0; simp
    · by_cases h1 : k = 1
      · subst h1; simp
      · by_cases h2 : k = 2
        · subst h2; simp
        · by_cases h3 : k = 3
          · subst h3; simp
          · by_cases h4 : k = 4
            · subst h4; simp
            · simp [h0, h1, h2, h3, h4, hz k]
theorem k_mna (B : BdC p R s m args meth c D cA cc nL cn d ini) {idx a0 a1 a2 a3 a4 a5 : Nat} (hd : decode cc pc = .ok (.multianewarray idx 2, 4)) (w1 : Cond.classLink (Rn cn) idx "[[I" ∈ gtb) (w2 : Cond.arrayClass .int ∈ gtb) (l0 : lay a0 = 107 ∧ alen a0 = 5) (l1 : lay a1 = 100 ∧ alen a1 = 7) (l2 : lay a2 = 100 ∧ alen a2 = 7) (l3 : lay a3 = 100 ∧ alen a3 = 7) (l4 : lay a4 = 100 ∧ alen a4 = 7) (l5 : lay a5 = 100 ∧ alen a5 = 7)
    (hnd : [a1, a2, a3, a4, a5, a0].Nodup) (hfr : ∀ a ∈ [a1, a2, a3, a4, a5, a0], ¬ kp dm a) (hL : allV dm L = true) (hr : allV dm r = true) (hc : nc + 6 ≤ R.cells) (hs : ns + 40 ≤ R.slots)
    (ih : AtC p l e R s m args below meth c Q D cA nL dm0 ad0 (pc + 4) L (.ref a0 :: r) (mnW (sup, dm ++ [a1] ++ [a2] ++ [a3] ++ [a4] ++ [a5] ++ [a0], μ) a0 a1 a2 a3 a4 a5) (nc + 6) (ns + 40)) : AtC p l e R s m args below meth c Q D cA nL dm0 ad0 pc L (.int (I 7) :: .int (I 5) :: r) (a1 :: a2 :: a3 :: a4 :: a5 :: a0 :: sup, dm, μ) nc ns := by
  intro ad H locs ls h1 h2 hl hW hS
  have hW : CWd D cA ad dm (mC (sup, dm, μ)) (A0 ad0 dm0 s.heap.size) H := hW
  have hK := B.2.2.2.2.2.1
  have hX : s.vm.findClass "[[I" = some (cA 7) := (hK.2 7 (cA 7, .array .int) rfl).2
  have hY : s.vm.findClass "[I" = some (cA 0) := (hK.2 0 (cA 0, .int) rfl).2
  have hz : ∀ a ∈ [a1, a2, a3, a4, a5, a0], ∀ k, (mC (sup, dm, μ)).1 a k = 0 ∧ (mC (sup, dm, μ)).2.1 a k = 0 ∧ (mC (sup, dm, μ)).2.2 a k = 0 := fun a ha k => hW.2.2.2.2.2 a (fun z => hfr a ha (Or.inl z)) k
  refine va_gr B.1 B.2.1 B.2.2.2.1 (B.2.2.2.2.1 _ w1) B.2.2.2.2.2.2.1.2.1 (B.2.2.2.2.1 _ w2) hX hY hW.1 hW.2.1 hS (fun q hq => Or.inr hq) hc hs hd fun H1 locs1 o1 z1 e0 er hS1 => ?_
  have hlt : ∀ b ∈ dm, ad b < H.size := fun b hb => by
    obtain ⟨q, hq, hw⟩ := wsC_at (ad := ad) (cA := cA) hb
    exact (hW.1 q _ (hw _)).lt
  have hW1 : CWd D cA ad dm (mC (sup, dm, μ)) (A0 ad0 dm0 s.heap.size) H1 := ⟨hW.1.kept fun k x hx => o1 x.1 ((hW.1 k x hx).lt), hW.2⟩
  have hA : ∀ j, A0 ad0 dm0 s.heap.size (H.size + j) := fun j => Or.inr (Nat.le_trans hS.1 (by omega))
  have row : ∀ a, a ∈ [a1, a2, a3, a4, a5, a0] → lay a = 100 ∧ alen a = 7 → ∀ ad' : Nat → Nat, (.inl (cA 0, 7, .inl fun _ => 0) : va_E) = entC ad' cA (mC (sup, dm, μ)) a := fun a ha hl' ad' => by
    rw [entC_100 hl'.1, hl'.2, show (mC (sup, dm, μ)).1 a = fun _ => 0 from funext fun k => (hz a ha k).1]
  have gI_e : ∀ j, j < 5 → va_at D vwCl (H.size + 1 + j, .inl (cA 0, 7, .inl fun _ => 0)) H1 := fun j hj => er j hj
  simp only [List.nodup_cons, List.mem_cons, List.not_mem_nil, or_false, not_or, List.nodup_nil, and_true, not_false_eq_true] at hnd
  obtain ⟨⟨n12, n13, n14, n15, n10⟩, ⟨n23, n24, n25, n20⟩, ⟨n34, n35, n30⟩, ⟨n45, n40⟩, n50⟩ := hnd
  have fr : ∀ a, a ∈ [a1, a2, a3, a4, a5, a0] → a ∉ dm := fun a ha z => hfr a ha (Or.inl z)
  have m1 : a1 ∈ [a1, a2, a3, a4, a5, a0] := by simp
  have m2 : a2 ∈ [a1, a2, a3, a4, a5, a0] := by simp
  have m3 : a3 ∈ [a1, a2, a3, a4, a5, a0] := by simp
  have m4 : a4 ∈ [a1, a2, a3, a4, a5, a0] := by simp
  have m5 : a5 ∈ [a1, a2, a3, a4, a5, a0] := by simp
  have m0 : a0 ∈ [a1, a2, a3, a4, a5, a0] := by simp
  have ap : ∀ {l1 : List Nat} {x y : Nat}, x ∉ l1 → x ≠ y → x ∉ l1 ++ [y] := fun {l1 x y} h1 h2 z => (List.mem_append.mp z).elim h1 fun q => h2 (List.mem_singleton.mp q)
  obtain ⟨ad1, W1, v1, g1⟩ := take_row (q := H.size + 1 + 0) (h0 := H.size) ⟨hW1, fun b hb => by have := hlt b hb; omega, fun b hb => by have := hlt b hb; omega⟩ (fr a1 m1) (by omega) (row a1 m1 l1) (gI_e 0 (by omega)) (by rw [Nat.add_assoc]; exact hA _) (by omega)
  obtain ⟨ad2, W2, v2, g2⟩ := take_row (q := H.size + 1 + 1) (h0 := H.size) W1 (ap (fr a2 m2) (Ne.symm n12)) (by omega) (row a2 m2 l2) (gI_e 1 (by omega)) (by rw [Nat.add_assoc]; exact hA _) (by omega)
  obtain ⟨ad3, W3, v3, g3⟩ := take_row (q := H.size + 1 + 2) (h0 := H.size) W2 (ap (ap (fr a3 m3) (Ne.symm n13)) (Ne.symm n23)) (by omega) (row a3 m3 l3) (gI_e 2 (by omega)) (by rw [Nat.add_assoc]; exact hA _) (by omega)
  obtain ⟨ad4, W4, v4, g4⟩ := take_row (q := H.size + 1 + 3) (h0 := H.size) W3 (ap (ap (ap (fr a4 m4) (Ne.symm n14)) (Ne.symm n24)) (Ne.symm n34)) (by omega) (row a4 m4 l4) (gI_e 3 (by omega)) (by rw [Nat.add_assoc]; exact hA _) (by omega)
  obtain ⟨ad5, W5, v5, g5⟩ := take_row (q := H.size + 1 + 4) (h0 := H.size) W4 (ap (ap (ap (ap (fr a5 m5) (Ne.symm n15)) (Ne.symm n25)) (Ne.symm n35)) (Ne.symm n45)) (by omega) (row a5 m5 l5) (gI_e 4 (by omega)) (by rw [Nat.add_assoc]; exact hA _) (by omega)
  have u1 : ad5 a1 = H.size + 1 + 0 := by rw [g5 _ n15, g4 _ n14, g3 _ n13, g2 _ n12, v1]
  have u2 : ad5 a2 = H.size + 1 + 1 := by rw [g5 _ n25, g4 _ n24, g3 _ n23, v2]
  have u3 : ad5 a3 = H.size + 1 + 2 := by rw [g5 _ n35, g4 _ n34, v3]
  have u4 : ad5 a4 = H.size + 1 + 3 := by rw [g5 _ n45, v4]
  have uk : ∀ b, kp dm b → ad5 b = ad b := fun b hb => by
    have ne : ∀ a, a ∈ [a1, a2, a3, a4, a5, a0] → b ≠ a := fun a ha z => hfr a ha (by rw [← z]; exact hb)
    rw [g5 _ (ne a5 m5), g4 _ (ne a4 m4), g3 _ (ne a3 m3), g2 _ (ne a2 m2), g1 _ (ne a1 m1)]
  obtain ⟨t1, t2, t3, t4⟩ := mnW_at (σ := (sup, dm ++ [a1] ++ [a2] ++ [a3] ++ [a4] ++ [a5] ++ [a0], μ)) (a0 := a0) (a1 := a1) (a2 := a2) (a3 := a3) (a4 := a4) (a5 := a5) (fun k => (hz a0 m0 k).2.2)
  have nz : ∀ {a : Nat}, lay a = 100 ∧ alen a = 7 → a ≠ 0 := fun {a} h z => by
    rw [z] at h
    exact absurd h.1 (by decide +kernel)
  have he : (.inl (cA 7, 5, .inr (.inr (.inr (.inr fun j => if j < 5 then some (H.size + 1 + j) else none)))) : va_E) = entC ad5 cA (mC (mnW (sup, dm ++ [a1] ++ [a2] ++ [a3] ++ [a4] ++ [a5] ++ [a0], μ) a0 a1 a2 a3 a4 a5)) a0 := by
    rw [entC_q (t := 7) l0.1 (by omega), l0.2, t4]
    congr 7
    funext j
    by_cases q0 : j = 0
    · subst q0; simp [po, nz l1, u1]
    · by_cases q1 : j = 1
      · subst q1; simp [po, nz l2, u2]
      · by_cases q2 : j = 2
        · subst q2; simp [po, nz l3, u3]
        · by_cases q3 : j = 3
          · subst q3; simp [po, nz l4, u4]
          · by_cases q4 : j = 4
            · subst q4; simp [po, nz l5, v5]
            · simp [q0, q1, q2, q3, q4, po, show ¬ j < 5 by omega]
  obtain ⟨p1, p2⟩ := take_PD W5.1 (q := H.size) (e9 := .inl (cA 7, 5, .inr (.inr (.inr (.inr fun j => if j < 5 then some (H.size + 1 + j) else none))))) e0 (hA 0) (fun b hb => W5.2.2 b hb)
  have hd0 : a0 ∉ dm ++ [a1] ++ [a2] ++ [a3] ++ [a4] ++ [a5] := ap (ap (ap (ap (ap (fr a0 m0) (Ne.symm n10)) (Ne.symm n20)) (Ne.symm n30)) (Ne.symm n40)) (Ne.symm n50)
  have W6 := CWd.newM W5.1 hd0 (by omega) (M' := mC (mnW (sup, dm ++ [a1] ++ [a2] ++ [a3] ++ [a4] ++ [a5] ++ [a0], μ) a0 a1 a2 a3 a4 a5)) (fun b hb => ⟨by rw [t1]; rfl, by rw [t2]; rfl, t3 b hb⟩) (fun k => by
    rw [t4]
    dsimp only
    split
    · exact Or.inr (by simp)
    · split
      · exact Or.inr (by simp)
      · split
        · exact Or.inr (by simp)
        · split
          · exact Or.inr (by simp)
          · split
            · exact Or.inr (by simp)
            · exact Or.inl rfl) he p1 p2
  have uk2 : ∀ b, kp dm b → upf ad5 a0 H.size b = ad b := fun b hb => by
    have : b ≠ a0 := fun z => hfr a0 m0 (by rw [← z]; exact hb)
    rw [upf_ne this, uk b hb]
  have h9 := ih (upf ad5 a0 H.size) H1 locs1 ls (fun b hb => (uk2 b (hb.imp (h2 b) id)).trans (h1 b hb)) (fun b hb => by have : b ∈ dm := h2 b hb; show b ∈ dm ++ [a1] ++ [a2] ++ [a3] ++ [a4] ++ [a5] ++ [a0]; simp [this]) (lok_ad hL uk2 hl) W6 hS1
  have ha : a0 ≠ 0 := fun z => absurd l0.1 (by rw [z]; decide +kernel)
  rw [List.map_cons, pv_ref ha, upf_eq, map_ad hr uk2] at h9
  exact h9
/-! calls -/
def PreC (D : va_G) (cA : Nat → ClassId) (ad : Nat → Nat) (sz : Nat) (as : List Value) (σ : Kst) : Array Value → State → Prop := va_Pc (as.map (pv ad)) fun U =>
  U.heap.size = sz ∧ CWd D cA ad σ.2.1 (mC σ) (fun _ => True) U.heap ∧ va_K D vwCl (tysM cA) U ∧ WX U
def PostC (D : va_G) (cA : Nat → ClassId) (ad : Nat → Nat) (sz : Nat) (σ σ' : Kst) : Array Value → State → Outcome → State → Prop := fun _ st oc t =>
  (oc = .returned none ∧ (∀ a ∈ σ.2.1, a ∈ σ'.2.1) ∧ ∃ ad' : Nat → Nat, (∀ a, kp σ.2.1 a → ad' a = ad a) ∧ CWd D cA ad' σ'.2.1 (mC σ') (A0 ad σ.2.1 sz) t.heap) ∧ va_F (A0 ad σ.2.1 sz) st t
theorem preC_blind {ad : Nat → Nat} {sz : Nat} {as : List Value} {σ : Kst} : FrameBlind (PreC D cA ad sz as σ) := by
  intro a U g mk ⟨h0, h1, h2, h3, h4⟩
  exact ⟨h0, h1, h2, va_K.moved (u := U) (U := U.calling g mk a) (Vm.Alike.refl U.vm) h3, WX.same (u := U) (U := U.calling g mk a) rfl h4⟩
theorem A0_up {ad : Nat → Nat} {M : Mm} {H : Heap} {locs : List Loc} (hW : CWd D cA ad dm M (A0 ad0 dm0 s.heap.size) H) (hS : va_S (A0 ad0 dm0 s.heap.size) s.heap H locs) : ∀ q, A0 ad dm H.size q → A0 ad0 dm0 s.heap.size q := by
  rintro q (⟨a, ha, rfl⟩ | h)
  · obtain ⟨k, hk, hw⟩ := wsC_at (ad := ad) (cA := cA) ha
    exact hW.2.1.2 k _ (hw M)
  · exact Or.inr (Nat.le_trans hS.1 h)
/-- behind a call -/
theorem evC_go {ad : Nat → Nat} {H : Heap} {locs : List Loc} {k1 k2 mc ms : Nat} {ls : Array Slot} {st0 rest : List Value} {a : Array Value} (hr : va_Run p l e R s m args below meth c H locs k1 k2 mc ms (F0 m pc ls st0) rest (PostC D cA ad H.size σ σ' a) (A0 ad σ.2.1 H.size)) (hW : CWd D cA ad σ.2.1 (mC σ) (A0 ad0 dm0 s.heap.size) H) (hS : va_S (A0 ad0 dm0 s.heap.size) s.heap H locs)
    (kk : ∀ (ad' : Nat → Nat) (H1 : Heap) (locs1 : List Loc), (∀ a ∈ σ.2.1, a ∈ σ'.2.1) → (∀ a, kp σ.2.1 a → ad' a = ad a) → CWd D cA ad' σ'.2.1 (mC σ') (A0 ad0 dm0 s.heap.size) H1 → va_S (A0 ad0 dm0 s.heap.size) s.heap H1 locs1 → W p l e R s m args below meth c H1 locs1 (k1 + mc) (k2 + ms) Q (F0 m (pc + 3) ls rest)) : W p l e R s m args below meth c H locs k1 k2 Q (F0 m pc ls st0) := by
  have up := A0_up hW hS
  intro T hT X
  obtain ⟨v, st₀, t, T', L, h0, X', hL, e1, e2, ⟨⟨hv, hsub, ad', hag, hW'⟩, hF⟩, st⟩ := hr T hT X
  cases hv
  obtain ⟨-, -, k3⟩ := vx_keep h0 e1 hS (fun q _ hq => up q hq) up hL hF
  obtain ⟨t2, a1, b1⟩ := kk ad' T'.heap (locs ++ L) hsub hag (by rw [e1]; exact ⟨hW'.1, hW'.2.1.weaken fun _ _ _ h => up _ h, hW'.2.2⟩) k3 T' rfl X'
  exact ⟨t2, st t2 a1, b1⟩
theorem preC_call (B : BdC p R s m args meth c D cA cc nL cn d ini) {ad : Nat → Nat} {H : Heap} (hW : CWd D cA ad σ.2.1 (mC σ) (A0 ad0 dm0 s.heap.size) H) {as : List Value} {U : State} (hU : U.heap = H) (hWm : s.WarmedH U.vm) : PreC D cA ad H.size as σ (as.map (pv ad)).toArray U :=
  ⟨rfl, by rw [hU], by rw [hU]; exact ⟨hW.1, hW.2.1.weaken fun _ _ _ _ => trivial, hW.2.2⟩, va_K.moved hWm.alike B.2.2.2.2.2.1, B.2.2.2.2.2.2.1.warm hWm⟩
end CM3
