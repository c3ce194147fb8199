/-! ===== image and restore ===== -/
def CImg (M : Mm) (q : Nat) (g : Nat → Int) (nm : Nat → List Nat) : Prop := CSr M (q + 10) g ∧ CNm M (q + 10) g nm ∧ CSt M (q + 40) g ∧ CSq M (q + 50) g ∧ VE M (q + 50)
theorem CSq_fr {M M' : Mm} {o : Nat} {g : Nat → Int} (h : CSq M o g) (h1 : ∀ a, o ≤ a → a < o + 4 → M'.1 a = M.1 a) (h2 : M'.2.2 (o + 1) = M.2.2 (o + 1)) : CSq M' o g := by
  obtain ⟨x1, x2, x3⟩ := h
  refine ⟨by rw [h1 o (by omega) (by omega)]; exact x1, fun i hi => ?_, by rw [h1 o (by omega) (by omega)]; exact x3⟩
  rw [h2, h1 (o + 2) (by omega) (by omega), h1 (o + 3) (by omega) (by omega)]
  exact x2 i hi
theorem VE_fr {M M' : Mm} {o : Nat} (h : VE M o) (h2 : M'.2.2 (o + 1) = M.2.2 (o + 1)) : VE M' o := fun i hi => by
  rw [h2]
  exact h i hi
theorem CNm_fr {M M' : Mm} {p : Nat} {g : Nat → Int} {nm : Nat → List Nat} (h : CNm M p g nm) (hf : ∀ a, p ≤ a → a < p + 17 → M'.2.1 a = M.2.1 a) : CNm M' p g nm := by
  unfold CNm at h ⊢
  rw [hf (p + 1) (by omega) (by omega), hf (p + 3) (by omega) (by omega), hf (p + 7) (by omega) (by omega)]
  exact h
theorem CNm_cp {M M' : Mm} {o p : Nat} {g : Nat → Int} {nm : Nat → List Nat} (hs : RGs g) (h : CNm M p g nm) (e : (∀ w, w < 5 → M'.2.1 (o + 1) w = M.2.1 (p + 1) w) ∧ (∀ w, w < 10 → M'.2.1 (o + 3) w = M.2.1 (p + 3) w) ∧ (∀ w, w < 6 → M'.2.1 (o + 7) w = M.2.1 (p + 7) w)) : CNm M' o g nm := by
  have hs1 := hs.1
  obtain ⟨h1, h2, h3⟩ := h
  refine ⟨fun w hw => ?_, fun w hw => ?_, fun w hw => ?_⟩
  · rw [e.1 w (by omega)]
    exact h1 w hw
  · rw [e.2.1 w (by omega)]
    exact h2 w hw
  · rw [e.2.2 w (by omega)]
    exact h3 w hw
section IMG
variable {M : Mm} {ps so : Nat} {g : Nat → Int} {nm : Nat → List Nat}
theorem b_image {d : Nat} (hb : CB M ps g) (hps : ps = 100 ∨ ps = 120) (ho : so = 300 ∨ so = 310) (h7 : M.2.2 1 7 = so) (hq : SG g) (hsq : CSq M so g) (hv : VE M so) (hn : CNm M ps g nm) {k : Int} (hk : (-2147483648 ≤ k ∧ k < 2147483648)) : EvQ (d + 4) 42 [.ref 1, .int (I k)] M fun v M' => (¬ (0 ≤ k ∧ k ≤ 1) → v = some (.int (I 0)) ∧ M' = M) ∧ (0 ≤ k ∧ k ≤ 1 → v = some (.int (I 1)) ∧ CImg M' (700 + 100 * k.toNat) g nm ∧ M'.1 (700 + 100 * k.toNat) 3 = I 1 ∧ Fr (700 + 100 * k.toNat) (700 + 100 * k.toNat + 60) M M') := by
  obtain ⟨hp, h2, hr, hc, hs, hd, hN⟩ := hb
  have hse : Se so := by rcases ho with rfl | rfl <;> simp [Se]
  apply e_B_image
  intro At step
  refine ⟨_, _, c_isWithin (by omega) (by omega) (by omega), fun z => ?_, fun z => ?_⟩
  · have no : ¬ (0 ≤ k ∧ k ≤ 1) := fun y => by
      rw [if_pos y] at z
      exact absurd z (by decide)
    exact ⟨fun _ => ⟨rfl, rfl⟩, fun y => absurd y no⟩
  have ok : 0 ≤ k ∧ k ≤ 1 := Classical.byContradiction fun y => z (by rw [if_neg y])
  obtain ⟨kn, hkn⟩ := Nn ok.1
  subst hkn
  rw [ixI (by omega) (by omega), Int.toNat_natCast]
  have hi2 : inR (I (kn : Int)) 2 := inRI (by omega) (by omega) (by omega)
  have kk : kn = 0 ∨ kn = 1 := by omega
  have q1 : Im (700 + 100 * kn) := by rcases kk with rfl | rfl <;> simp [Im]
  have q2 : St (700 + 100 * kn + 10) := by rcases kk with rfl | rfl <;> simp [St]
  have q3 : Sa (700 + 100 * kn + 40) := by rcases kk with rfl | rfl <;> simp [Sa]
  have q4 : Se (700 + 100 * kn + 50) := by rcases kk with rfl | rfl <;> simp [Se]
  generalize hQ : 700 + 100 * kn = q at *
  have hq7 : 700 ≤ q := by omega
  refine ⟨hi2, q1, ?_⟩
  rw [h2]
  refine q_non (c_streetCopy q2 hp (by omega) hr hs) ?_
  rintro N6 ⟨a1, a2, a3⟩
  refine ⟨hi2, ?_⟩
  have hc6 : CSt N6 200 g := hc.of fun a x1 x2 => (a3 a (by omega)).1
  refine q_non (c_stateCopy q3 Sa200 (by omega) hc6) ?_
  rintro N8 ⟨b1, b2⟩
  have F8 : Fr (q + 10) (q + 44) M N8 := (a3.mono (by omega) (by omega)).trans (b2.mono (by omega) (by omega))
  rw [(F8 1 (by omega)).2.2, h7]
  have hsq8 : CSq N8 so g := CSq_fr hsq (fun a x1 x2 => (F8 a (by omega)).1) (F8 (so + 1) (by omega)).2.2
  have hv8 : VE N8 so := VE_fr hv (F8 (so + 1) (by omega)).2.2
  refine ⟨hi2, ?_⟩
  refine q_non (c_sentCopy q4 hse (by omega) hq hsq8 hv8) ?_
  rintro N10 ⟨d1, d2, d3⟩
  have F10 : Fr q (q + 60) M N10 := (F8.mono (by omega) (by omega)).trans (d3.mono (by omega) (by omega))
  have s1 : ∀ a, a ≠ q → (sI N10 q 3 (I 1)).1 a = N10.1 a := fun a ha => mI_fn ha
  refine ⟨hi2, fun y => absurd ok y, fun _ => ⟨rfl, ?_, mI_eq, F10.trans (Fr.sI (by omega) (by omega))⟩⟩
  refine ⟨a1.of fun a x1 x2 => ?_, ?_, b1.of fun a x1 x2 => ?_, CSq_fr d1 (fun a x1 x2 => s1 a (by omega)) rfl, VE_fr d2 rfl⟩
  · rw [s1 a (by omega), (d3 a (by omega)).1, (b2 a (by omega)).1]
  · refine CNm_fr (CNm_cp hs hn a2) fun a x1 x2 => ?_
    show N10.2.1 a = _
    rw [(d3 a (by omega)).2.1, (b2 a (by omega)).2.1]
  · rw [s1 a (by omega), (d3 a (by omega)).1]
theorem b_restore {d : Nat} {gk : Nat → Int} {nk : Nat → List Nat} (hp : ps = 100 ∨ ps = 120) (h2 : M.2.2 1 2 = ps) (ho : so = 300 ∨ so = 310) (h7 : M.2.2 1 7 = so) {k : Int} (hk : (-2147483648 ≤ k ∧ k < 2147483648)) (hK : 0 ≤ k ∧ k ≤ 1 → (M.1 (700 + 100 * k.toNat) 3 = I 0 ∨ M.1 (700 + 100 * k.toNat) 3 = I 1 ∧ CImg M (700 + 100 * k.toNat) gk nk ∧ RGs gk ∧ SG gk)) : EvQ (d + 4) 43 [.ref 1, .int (I k)] M fun v M' => (¬ (0 ≤ k ∧ k ≤ 1 ∧ M.1 (700 + 100 * k.toNat) 3 = I 1) → v = some (.int (I 0)) ∧ M' = M) ∧ (0 ≤ k ∧ k ≤ 1 ∧ M.1 (700 + 100 * k.toNat) 3 = I 1 → v = some (.int (I 1)) ∧ (CSr M' ps gk ∧ CNm M' ps gk nk ∧ CSt M' 200 gk ∧ CSq M' so gk ∧ VE M' so) ∧ M'.1 20 2 = I 0 ∧ (∀ a, ¬ (ps ≤ a ∧ a < ps + 17) → ¬ (200 ≤ a ∧ a < 204) → ¬ (so ≤ a ∧ a < so + 5) → a ≠ 20 → M'.1 a = M.1 a ∧ M'.2.1 a = M.2.1 a ∧ M'.2.2 a = M.2.2 a) ∧ (∀ j, j ≠ 2 → M'.1 20 j = M.1 20 j) ∧ M'.2.1 20 = M.2.1 20 ∧ M'.2.2 20 = M.2.2 20) := by
  have hst : St ps := by rcases hp with rfl | rfl <;> simp [St]
  have hse : Se so := by rcases ho with rfl | rfl <;> simp [Se]
  apply e_B_restore
  intro At step
  refine ⟨_, _, c_isWithin (by omega) (by omega) (by omega), fun z => ?_, fun z => ?_⟩
  · have no : ¬ (0 ≤ k ∧ k ≤ 1) := fun y => by
      rw [if_pos y] at z
      exact absurd z (by decide)
    exact ⟨fun _ => ⟨rfl, rfl⟩, fun y => absurd ⟨y.1, y.2.1⟩ no⟩
  have ok : 0 ≤ k ∧ k ≤ 1 := Classical.byContradiction fun y => z (by rw [if_neg y])
  obtain ⟨kn, hkn⟩ := Nn ok.1
  subst hkn
  have hK := hK ok
  rw [Int.toNat_natCast] at *
  rw [ixI (by omega) (by omega), Int.toNat_natCast]
  have hi2 : inR (I (kn : Int)) 2 := inRI (by omega) (by omega) (by omega)
  have kk : kn = 0 ∨ kn = 1 := by omega
  have q1 : Im (700 + 100 * kn) := by rcases kk with rfl | rfl <;> simp [Im]
  have q2 : St (700 + 100 * kn + 10) := by rcases kk with rfl | rfl <;> simp [St]
  have q3 : Sa (700 + 100 * kn + 40) := by rcases kk with rfl | rfl <;> simp [Sa]
  have q4 : Se (700 + 100 * kn + 50) := by rcases kk with rfl | rfl <;> simp [Se]
  generalize hQ : 700 + 100 * kn = q at *
  have hq7 : 700 ≤ q := by omega
  refine ⟨hi2, q1, fun z3 => ⟨fun _ => ⟨rfl, rfl⟩, fun y => absurd (z3.symm.trans y.2.2) (by decide)⟩, fun z3 => ⟨hi2, ?_⟩⟩
  rcases hK with hK | ⟨hK3, ⟨i1, i2, i3, i4, i5⟩, hs, hq⟩
  · exact absurd hK z3
  rw [h2]
  refine ⟨hst, ?_⟩
  refine q_non (c_streetCopy hst q2 (by omega) i1 hs) ?_
  rintro N7 ⟨a1, a2, a3⟩
  refine ⟨hi2, ?_⟩
  have hc6 : CSt N7 (q + 40) gk := i3.of fun a x1 x2 => (a3 a (by omega)).1
  refine q_non (c_stateCopy Sa200 q3 (by omega) hc6) ?_
  rintro N9 ⟨b1, b2⟩
  have e7 : N9.2.2 1 = M.2.2 1 := by rw [(b2 1 (by omega)).2.2, (a3 1 (by omega)).2.2]
  rw [e7, h7]
  have hsq8 : CSq N9 (q + 50) gk := CSq_fr i4 (fun a x1 x2 => by rw [(b2 a (by omega)).1, (a3 a (by omega)).1]) (by rw [(b2 (q + 50 + 1) (by omega)).2.2, (a3 (q + 50 + 1) (by omega)).2.2])
  have hv8 : VE N9 (q + 50) := VE_fr i5 (by rw [(b2 (q + 50 + 1) (by omega)).2.2, (a3 (q + 50 + 1) (by omega)).2.2])
  refine ⟨hi2, hse, ?_⟩
  refine q_non (c_sentCopy hse q4 (by omega) hq hsq8 hv8) ?_
  rintro N11 ⟨d1, d2, d3⟩
  have s1 : ∀ a, a ≠ 20 → (sI N11 20 2 (I 0)).1 a = N11.1 a := fun a ha => mI_fn ha
  refine ⟨fun y => absurd ⟨ok.1, ok.2, hK3⟩ y, fun _ => ⟨rfl, ⟨a1.of fun a x1 x2 => ?_, ?_, b1.of fun a x1 x2 => ?_, CSq_fr d1 (fun a x1 x2 => s1 a (by omega)) rfl, VE_fr d2 rfl⟩, mI_eq, fun a x1 x2 x3 x4 => ⟨?_, ?_, ?_⟩, fun j hj => ?_, ?_, ?_⟩⟩
  · rw [s1 a (by omega), (d3 a (by omega)).1, (b2 a (by omega)).1]
  · refine CNm_fr (CNm_cp hs i2 a2) fun a x1 x2 => ?_
    show N11.2.1 a = _
    rw [(d3 a (by omega)).2.1, (b2 a (by omega)).2.1]
  · rw [s1 a (by omega), (d3 a (by omega)).1]
  · rw [s1 a x4, (d3 a (by omega)).1, (b2 a (by omega)).1, (a3 a (by omega)).1]
  · show N11.2.1 a = _
    rw [(d3 a (by omega)).2.1, (b2 a (by omega)).2.1, (a3 a (by omega)).2.1]
  · show N11.2.2 a = _
    rw [(d3 a (by omega)).2.2, (b2 a (by omega)).2.2, (a3 a (by omega)).2.2]
  · rw [mI_n2 hj, (d3 20 (by omega)).1, (b2 20 (by omega)).1, (a3 20 (by omega)).1]
  · show N11.2.1 20 = _
    rw [(d3 20 (by omega)).2.1, (b2 20 (by omega)).2.1, (a3 20 (by omega)).2.1]
  · show N11.2.2 20 = _
    rw [(d3 20 (by omega)).2.2, (b2 20 (by omega)).2.2, (a3 20 (by omega)).2.2]
end IMG
