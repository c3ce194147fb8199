/-! ===== book, sentence ===== -/
section BKS2
variable {M N : Mm} {ps so : Nat} {z : ZS} {T : List Nat} {x : Int}
theorem bk_all {b : Nat → Nat} {n L : Nat} {g : Nat → Int} {nm : Nat → List Nat} (hs : RGs g) : ∀ (f m : Nat) (bk : Nat → BL) (p : Nat) (x : Nat × (Nat → BL)), p ≤ n → (∀ i, i < m → bkOk g (bk i)) → bkS b n L g nm f m bk p = .ok x → ∀ i, i < x.1 → bkOk g (x.2 i)
  | 0, m, bk, p, x, _, _, h => by cases h
  | f + 1, m, bk, p, x, hp, hb, h => by
    rw [bkS_s] at h
    by_cases c : tkK b n L p = 0
    · rw [if_pos c] at h
      cases h
      exact hb
    · rw [if_neg c] at h
      obtain ⟨y, h1, h2⟩ := bnd_ok h
      obtain ⟨q, h3, h4⟩ := bnd_ok h2
      obtain ⟨a1, a2, a3, a4⟩ := bk_step hp hs h1 h3
      refine bk_all hs f (m + 1) (upf bk m y.1) q x a3 (fun i hi => ?_) h4
      by_cases e : i = m
      · rw [e, upf_eq]
        exact a1
      · rw [upf_ne e]
        exact hb i (by omega)
def bkZR (z : ZS) : PE (Nat × (Nat → BL)) := bkR z.2.2.1.2 z.2.2.1.1 z.1.1 z.2.1
def bkJ (z : ZS) (x : Nat × (Nat → BL)) : Int × Nat × (Nat → Int) := jdG x.2 x.1 z.1.1
def bkZ (lv : Int) (z : ZS) : ZS := match bkZR z with
  | .error e => (z.1, z.2.1, (0, z.2.2.1.2), upf z.2.2.2.1 0 e.1, z.2.2.2.2)
  | .ok x => ((if lv = 1 then (bkJ z x).2.2 else z.1.1, keptN (bookL lv (bkJ z x).2.1) z.1.2.1, keptU (bookL lv (bkJ z x).2.1) z.1.1 z.1.2.2), z.2.1, (0, z.2.2.1.2), upf z.2.2.2.1 0 0, (1, tdG (bkJ z x).1 (bkJ z x).2.1 (bkJ z x).2.2), z.2.2.2.2.2)
theorem bkZ_e {lv : Int} {e : Int × Nat} (h : bkZR z = .error e) : bkZ lv z = (z.1, z.2.1, (0, z.2.2.1.2), upf z.2.2.2.1 0 e.1, z.2.2.2.2) := by
  unfold bkZ
  rw [h]
theorem bkZ_o {lv : Int} {x : Nat × (Nat → BL)} (h : bkZR z = .ok x) : bkZ lv z = ((if lv = 1 then (bkJ z x).2.2 else z.1.1, keptN (bookL lv (bkJ z x).2.1) z.1.2.1, keptU (bookL lv (bkJ z x).2.1) z.1.1 z.1.2.2), z.2.1, (0, z.2.2.1.2), upf z.2.2.2.1 0 0, (1, tdG (bkJ z x).1 (bkJ z x).2.1 (bkJ z x).2.2), z.2.2.2.2.2) := by
  unfold bkZ
  rw [h]
theorem bk_o {lv : Int} {x : Nat × (Nat → BL)} (hs : RGs z.1.1) (hd : RGd z.1.1) (hn : RN z.1.1) (h : bkZR z = .ok x) : SameO z.1.1 (if lv = 1 then (bkJ z x).2.2 else z.1.1) := by
  by_cases c : lv = 1
  · rw [if_pos c]
    have hb := bk_all hs _ 0 bk00 0 x (Nat.zero_le _) (fun i hi => absurd hi (by omega)) h
    exact (jd_ok x.1 0 z.1.1 hs hd hn fun j _ hj => hb j (by omega)).1.1
  · rw [if_neg c]
    exact SameO.refl
theorem s_book (hx : (-2147483648 ≤ x ∧ x < 2147483648)) : Same 38 154 [.int (I x)] := by
  by_cases c : 0 ≤ x ∧ x ≤ 1
  · refine same_of (fun z => bookA z.1.1 (bkZR z) x) (bkZ x) (fun M ps so z h _ p => ?_) (fun M ps so z h p => ?_) (fun M z h p => ?_)
    · rcases pe_cases (bkZR z) with ⟨e, he⟩ | ⟨y, hy⟩
      · rw [bkZ_e he]
        exact p
      · rw [bkZ_o hy]
        have o := bk_o (lv := x) h.2.1.1.2.2.2.2.1 h.2.1.1.2.2.2.2.2.1 h.2.1.1.2.2.2.2.2.2 hy
        exact ⟨SG_o o p.1, NMo_o (fun i hi => o i (by omega)) p.2.1, NMd_o (fun i hi => o i (by omega)) p.2.2.1, Nat.le_refl 1, p.2.2.2.2⟩
    · have hh := h
      obtain ⟨k0, k1, k2, k3, k4, k5, k6, k7, k8⟩ := h
      have hp := k0.1
      have hs := k0.2.1
      refine (b_book (d := 31) k1 k2 p.2.1 k3 hx).mono fun r N q => ?_
      obtain ⟨q1, -, q3⟩ := q
      obtain ⟨t0, ⟨f1, f2, f3, f4⟩, q4, q5⟩ := q3 c
      refine ⟨q1, ?_⟩
      have f : ∀ a, a ≠ 1 → a ≠ 2 → ¬ (20 ≤ a ∧ a < 22) → ¬ (30 ≤ a ∧ a < 35) → ¬ (200 ≤ a ∧ a < 250) → Ag M N a := f1
      have fk : FK M N := fun a h1 h2 => ⟨(f a (by omega) (by omega) (by omega) (by omega) (by omega)).1, (f a (by omega) (by omega) (by omega) (by omega) (by omega)).2.1⟩
      have ka : KA N ps so := by
        unfold KA at k0 ⊢
        rw [f4]
        exact k0
      rcases pe_cases (bkZR z) with ⟨e, he⟩ | ⟨y, hy⟩
      · obtain ⟨r1, r2, r3⟩ := q4 e he
        rw [bkZ_e he]
        refine ⟨⟨ps, so, ka, r2, CNm_fr k2 fun a x y => (f a (by omega) (by omega) (by omega) (by omega) (by omega)).2.1, t0, KS_ag k4 hs fun a x y => f a (by omega) (by omega) (by omega) (by omega) (by omega), KV_0 k5 r1 f2, ?_, CPl_ag k7 fun a ha => (f a (by omega) (by omega) (by omega) (by omega) (by omega)).1, KM_ag k8 fun a x y => f a (by omega) (by omega) (by omega) (by omega) (by omega)⟩, fk⟩
        unfold CTd at k6 ⊢
        rw [r3 5 (by decide), r3 6 (by decide), r3 7 (by decide), r3 8 (by decide), r3 9 (by decide)]
        exact k6
      · obtain ⟨r1, r2, r3⟩ := q5 y hy
        have o := bk_o (lv := x) k1.1.2.2.2.2.1 k1.1.2.2.2.2.2.1 k1.1.2.2.2.2.2.2 hy
        obtain ⟨s1, s2, s3⟩ := KS_ag (N := N) k4 hs fun a x y => f a (by omega) (by omega) (by omega) (by omega) (by omega)
        rw [bkZ_o hy]
        exact ⟨⟨ps, so, ka, r2, CNm_o (fun i hi => o i (by omega)) (CNm_fr k2 fun a x y => (f a (by omega) (by omega) (by omega) (by omega) (by omega)).2.1), t0, ⟨CSq_o o s1, s2, s3⟩, KV_0 k5 r1 f2, r3, CPl_ag k7 fun a ha => (f a (by omega) (by omega) (by omega) (by omega) (by omega)).1, KM_ag k8 fun a x y => f a (by omega) (by omega) (by omega) (by omega) (by omega)⟩, fk⟩
    · obtain ⟨k0, k1, k2, k3, k4, k5, k6, k7⟩ := h
      refine (r_book (d := 32) k0 k1 p.2.1 p.2.2.1 k2 k3 hx).mono fun r N q => ?_
      obtain ⟨q1, -, -, q3⟩ := q
      obtain ⟨t0, hF, q4, q5⟩ := q3 c
      refine ⟨q1, ?_⟩
      have a : ∀ a ∈ [405, 406, 411, 417, 418, 419], N.1 a = M.1 a ∧ N.2.1 a = M.2.1 a := fun a ha => hF.1 a (by
        have : a = 405 ∨ a = 406 ∨ a = 411 ∨ a = 417 ∨ a = 418 ∨ a = 419 := by simpa using ha
        rcases this with rfl | rfl | rfl | rfl | rfl | rfl <;> decide) (by rintro rfl; exact absurd ha (by decide))
      rcases pe_cases (bkZR z) with ⟨e, he⟩ | ⟨y, hy⟩
      · obtain ⟨r1, r2, r3, r4⟩ := q4 e he
        rw [bkZ_e he]
        exact ⟨⟨r2, RNm_ag k1 (a 405 (by decide)).2, t0, RWd_ag k3 (a 406 (by decide)).2, RVv_0 k4 r1 fun j hj => hF.2.1 j (t_ok (by decide) hj), RTd_ag k5 r3 r4, RPl_ag k6 (hF.2.1 28 (by decide)) (a 411 (by decide)).1, RM_ag k7 ⟨(a 417 (by decide)).1, (a 419 (by decide)).1, (a 418 (by decide)).2⟩⟩, FR_rf hF (by decide)⟩
      · obtain ⟨r1, r2, r3⟩ := q5 y hy
        have o := bk_o (lv := x) k0.2.2.1 k0.2.2.2.1 k0.2.2.2.2 hy
        rw [bkZ_o hy]
        exact ⟨⟨r2, RNm_o (fun i hi => o i (by omega)) (RNm_ag k1 (a 405 (by decide)).2), t0, RWd_ag k3 (a 406 (by decide)).2, RVv_0 k4 r1 fun j hj => hF.2.1 j (t_ok (by decide) hj), r3, RPl_ag k6 (hF.2.1 28 (by decide)) (a 411 (by decide)).1, RM_ag k7 ⟨(a 417 (by decide)).1, (a 419 (by decide)).1, (a 418 (by decide)).2⟩⟩, FR_rf hF (by decide)⟩
  · exact same_ask (fun z => bookA z.1.1 (bkZR z) x) (fun M ps so z h p => by
      obtain ⟨r, N, e, q1, q2, q3⟩ := b_book (d := 31) h.2.1 h.2.2.1 p.2.1 h.2.2.2.1 hx
      rw [q1, q2 c] at e
      exact e) fun M z h p => by
      obtain ⟨r, N, e, q1, q2, q3, q4⟩ := r_book (d := 32) h.1 h.2.1 p.2.1 p.2.2.1 h.2.2.1 h.2.2.2.1 hx
      rw [q1, q3 c] at e
      exact e
def snZR (z : ZS) : PE SS := senR z.2.2.1.2 z.2.2.1.1 z.1.1 z.2.1
def snZ (z : ZS) : ZS := match snZR z with
  | .error e => (z.1, z.2.1, (0, z.2.2.1.2), upf z.2.2.2.1 0 e.1, z.2.2.2.2)
  | .ok st => ((senG st z.1.1, z.1.2), z.2.1, (0, z.2.2.1.2), upf z.2.2.2.1 0 0, z.2.2.2.2)
theorem snZ_e {e : Int × Nat} (h : snZR z = .error e) : snZ z = (z.1, z.2.1, (0, z.2.2.1.2), upf z.2.2.2.1 0 e.1, z.2.2.2.2) := by
  unfold snZ
  rw [h]
theorem snZ_o {st : SS} (h : snZR z = .ok st) : snZ z = ((senG st z.1.1, z.1.2), z.2.1, (0, z.2.2.1.2), upf z.2.2.2.1 0 0, z.2.2.2.2) := by
  unfold snZ
  rw [h]
theorem sn_ok {st : SS} (hs : RGs z.1.1) (hd : RGd z.1.1) (hn : RN z.1.1) (h : snZR z = .ok st) : RGs (senG st z.1.1) ∧ RGd (senG st z.1.1) ∧ RN (senG st z.1.1) ∧ SG (senG st z.1.1) := by
  obtain ⟨h1, h2, h3, h4⟩ := sen_ok hs h
  exact senG_ok hs hd hn h1 h2
theorem s_sentence : Same 40 162 [] := same_of (fun z => senA (snZR z)) snZ (fun M ps so z h _ p => by
    rcases pe_cases (snZR z) with ⟨e, he⟩ | ⟨st, hst⟩
    · rw [snZ_e he]
      exact p
    · rw [snZ_o hst]
      exact ⟨(sn_ok h.2.1.1.2.2.2.2.1 h.2.1.1.2.2.2.2.2.1 h.2.1.1.2.2.2.2.2.2 hst).2.2.2, NMo_o (fun i hi => senG_lo (by omega)) p.2.1, NMd_o (fun i hi => senG_lo (by omega)) p.2.2.1, p.2.2.2⟩)
  (fun M ps so z h p => by
    obtain ⟨k0, k1, k2, k3, k4, k5, k6, k7, k8⟩ := h
    have hp := k0.1
    have hs := k0.2.1
    obtain ⟨hb, ⟨nx, hP⟩, hU⟩ := k1
    obtain ⟨b1, b2, b3, b4, b5, b6, b7⟩ := id hb
    refine (b_sentence (d := 6) hp k0.2.2.1 ⟨b1, b3, k2, b5, p.2.1⟩ k3 (so' := 610 - so) (by omega) k0.2.2.2.2.1 k0.2.2.2.2.2 k4.2.2).mono fun r N q => ?_
    obtain ⟨q1, t0, v0, ⟨f1, f2, f3, f4⟩, q4, q5⟩ := q
    refine ⟨q1, ?_⟩
    have f : ∀ a, a ≠ 1 → a ≠ 2 → ¬ (610 - so ≤ a ∧ a < 610 - so + 5) → Ag M N a := f1
    have fk : FK M N := fun a h1 h2 => ⟨(f a (by omega) (by omega) (by omega)).1, (f a (by omega) (by omega) (by omega)).2.1⟩
    have g2 : N.2.2 1 2 = M.2.2 1 2 := f4 2 (by decide) (by decide)
    have g3 : N.2.2 1 3 = M.2.2 1 3 := f4 3 (by decide) (by decide)
    rcases pe_cases (snZR z) with ⟨e, he⟩ | ⟨st, hst⟩
    · obtain ⟨r1, r2⟩ := q4 e he
      rw [snZ_e he]
      refine ⟨⟨ps, so, ?_, CU_ag ⟨hb, ⟨nx, hP⟩, hU⟩ g2 fun a ha => (f a (by omega) (by omega) (by omega)).1, CNm_fr k2 fun a x y => (f a (by omega) (by omega) (by omega)).2.1, t0, ⟨CSq_fr k4.1 (fun a x y => (f a (by omega) (by omega) (by omega)).1) (f _ (by omega) (by omega) (by omega)).2.2, VE_fr k4.2.1 (f _ (by omega) (by omega) (by omega)).2.2, v0⟩, KV_0 k5 r1 f2, CTd_ag k6 (f 30 (by omega) (by omega) (by omega)).1, CPl_ag k7 fun a ha => (f a (by omega) (by omega) (by omega)).1, KM_ag k8 fun a x y => f a (by omega) (by omega) (by omega)⟩, fk⟩
      unfold KA at k0 ⊢
      rw [r2]
      exact k0
    · obtain ⟨r1, r2, r3, r4⟩ := q5 st hst
      obtain ⟨h1, h2, h3, h4⟩ := sen_ok b5 hst
      have h20 := h1.2.1
      obtain ⟨w1, w2, w3, w4⟩ := sn_ok b5 b6 b7 hst
      rw [snZ_o hst]
      refine ⟨⟨ps, 610 - so, ⟨hp, by omega, by rw [g2]; exact k0.2.2.1, by rw [g3]; exact k0.2.2.2.1, r2, by rw [r3]; omega⟩, ⟨⟨b1, by rw [g2]; exact b2, CSr_lo (fun i hi => senG_lo (by omega)) b5 (b3.of fun a x y => (f a (by omega) (by omega) (by omega)).1), (b4.of fun a x y => (f a (by omega) (by omega) (by omega)).1).congr fun j h1 h2 _ => (senG_lo h2).symm, w1, w2, w3⟩, ⟨nx, hP.fr fun a ha => (f a (by omega) (by omega) (by omega)).1⟩, fun i hi => ?_⟩, CNm_o (fun i hi => senG_lo (by omega)) (CNm_fr k2 fun a x y => (f a (by omega) (by omega) (by omega)).2.1), t0, ⟨CSq_sen r4 h3 h4 (by omega), v0, ?_⟩, KV_0 k5 r1 f2, CTd_ag k6 (f 30 (by omega) (by omega) (by omega)).1, CPl_ag k7 fun a ha => (f a (by omega) (by omega) (by omega)).1, KM_ag k8 fun a x y => f a (by omega) (by omega) (by omega)⟩, fk⟩
      · have e : ∀ j, j < 122 → mixG (senG st z.1.1) (z.1.2.2 i) j = mixG z.1.1 (z.1.2.2 i) j := fun j hj => by
          unfold mixG
          rw [senG_lo hj]
        exact ⟨(hU i hi).1.congr e, (hU i hi).2.congr e⟩
      · rw [show 610 - (610 - so) = so by omega]
        exact VE_fr k4.2.1 (f _ (by omega) (by omega) (by omega)).2.2)
  (fun M z h p => by
    obtain ⟨k0, k1, k2, k3, k4, k5, k6, k7⟩ := h
    obtain ⟨hm, hP, b5, b6, b7⟩ := id k0
    refine (r_sentence (d := 34) ⟨hm, k1, b5, p.2.1, p.2.2.1⟩ k2 k3).mono fun r N q => ?_
    obtain ⟨q1, -, t0, hF, q4, q5⟩ := q
    refine ⟨q1, ?_⟩
    have a : ∀ a, a ≠ 402 → a ≠ 404 → a ≠ 415 → a ≠ 400 → N.1 a = M.1 a ∧ N.2.1 a = M.2.1 a := fun a h0 h1 h2 h4 => hF.1 a (by simp [h0, h1, h2]) h4
    rcases pe_cases (snZR z) with ⟨e, he⟩ | ⟨st, hst⟩
    · obtain ⟨r1, r2⟩ := q4 e he
      rw [snZ_e he]
      exact ⟨⟨⟨by rw [r2]; exact hm, hP.fr (hF.2.1 23 (by decide)) (a 407 (by decide) (by decide) (by decide) (by decide)).1, b5, b6, b7⟩, RNm_ag k1 (a 405 (by decide) (by decide) (by decide) (by decide)).2, t0, RWd_ag k3 (a 406 (by decide) (by decide) (by decide) (by decide)).2, RVv_0 k4 r1 fun j hj => hF.2.1 j (t_ok (by decide) hj), RTd_ag k5 (hF.2.1 43 (by decide)) (a 414 (by decide) (by decide) (by decide) (by decide)).1, RPl_ag k6 (hF.2.1 28 (by decide)) (a 411 (by decide) (by decide) (by decide) (by decide)).1, RM_ag k7 ⟨(a 417 (by decide) (by decide) (by decide) (by decide)).1, (a 419 (by decide) (by decide) (by decide) (by decide)).1, (a 418 (by decide) (by decide) (by decide) (by decide)).2⟩⟩, FR_rf hF (by decide)⟩
    · obtain ⟨r1, r2⟩ := q5 st hst
      obtain ⟨w1, w2, w3, w4⟩ := sn_ok b5 b6 b7 hst
      rw [snZ_o hst]
      exact ⟨⟨⟨r2, hP.fr (hF.2.1 23 (by decide)) (a 407 (by decide) (by decide) (by decide) (by decide)).1, w1, w2, w3⟩, RNm_o (fun i hi => senG_lo (by omega)) (RNm_ag k1 (a 405 (by decide) (by decide) (by decide) (by decide)).2), t0, RWd_ag k3 (a 406 (by decide) (by decide) (by decide) (by decide)).2, RVv_0 k4 r1 fun j hj => hF.2.1 j (t_ok (by decide) hj), RTd_ag k5 (hF.2.1 43 (by decide)) (a 414 (by decide) (by decide) (by decide) (by decide)).1, RPl_ag k6 (hF.2.1 28 (by decide)) (a 411 (by decide) (by decide) (by decide) (by decide)).1, RM_ag k7 ⟨(a 417 (by decide) (by decide) (by decide) (by decide)).1, (a 419 (by decide) (by decide) (by decide) (by decide)).1, (a 418 (by decide) (by decide) (by decide) (by decide)).2⟩⟩, FR_rf hF (by decide)⟩)
end BKS2
