/-! ===== crew, built, feed, end, said ===== -/
section ACT3
variable {M N : Mm} {ps so : Nat} {z : ZS} {T : List Nat} {x y w : Int}
theorem s_crew (hx : (-2147483648 ≤ x ∧ x < 2147483648)) : Same 19 131 [.int (I x)] := same_of (fun z => crewA z.1.1 x) (fun z => (z.1, z.2.1, z.2.2.1, upf (upf z.2.2.2.1 1 (crewF z.1.1 x (z.2.2.2.1 1, z.2.2.2.1 2)).1) 2 (crewF z.1.1 x (z.2.2.2.1 1, z.2.2.2.1 2)).2, z.2.2.2.2)) (fun _ _ _ _ _ _ p => PQ_v p)
  (fun M ps so z h _ => by
    obtain ⟨v0, v1, v2, v3, v4, v5⟩ := h.2.2.2.2.2.1
    refine (b_crew (d := 35) h.2.1.1 hx v1 v2).mono fun r N q => ⟨q.1, ⟨ps, so, KQ_f1 h q.2.2.2.2 q.2.1 ?_⟩, FK_f1 q.2.2.2.2 (by omega)⟩
    have f := q.2.2.2.2.2.1
    exact ⟨(f 12 (by decide)).trans v0, q.2.2.1, q.2.2.2.1, (f 15 (by decide)).trans v3, (f 16 (by decide)).trans v4, (f 17 (by decide)).trans v5⟩)
  (fun M z h _ => by
    obtain ⟨v0, v1, v2, v3, v4⟩ := h.2.2.2.2.1
    obtain ⟨F0, e29, -, -⟩ := I_ex (M.1 400 29)
    obtain ⟨C0, e30, -, -⟩ := I_ex (M.1 400 30)
    have hs := h.1.2.2.1
    have hd := h.1.2.2.2.1
    have hn := h.1.2.2.2.2
    refine (r_crew (d := 35) h.1 hx e29 e30).mono fun r N q => ⟨q.1, RQ_v h q.2.2.2.2.2 (by decide) q.2.1 ?_, FR_rf q.2.2.2.2.2 (by decide)⟩
    have f := q.2.2.2.2.2.2.1
    refine ⟨(f 15 (by decide)).trans v0, ?_, ?_, ?_, ?_⟩
    · show (N.1 400 31 = I 0 ∧ (crewF z.1.1 x (z.2.2.2.1 1, z.2.2.2.1 2)).1 = -1 ∧ (crewF z.1.1 x (z.2.2.2.1 1, z.2.2.2.1 2)).2 = -1) ∨ (N.1 400 31 = I 1 ∧ N.1 400 29 = I (crewF z.1.1 x (z.2.2.2.1 1, z.2.2.2.1 2)).1 ∧ N.1 400 30 = I (crewF z.1.1 x (z.2.2.2.1 1, z.2.2.2.1 2)).2)
      rw [q.2.2.1, q.2.2.2.1, q.2.2.2.2.1]
      by_cases c : 1 ≤ x ∧ x ≤ 6 ∧ x ≤ 48 - z.1.1 89
      · have ex : x = ((x.toNat : Nat) : Int) := by omega
        have nn := crewA_nn hs hd hn (n := x.toNat) (by omega) (by omega) (by omega)
        rw [← ex] at nn
        rw [if_neg (by omega)]
        unfold crewF
        rw [if_pos c, if_pos c]
        exact Or.inr ⟨rfl, rfl, rfl⟩
      · unfold crewA crewF
        rw [if_neg c, if_neg c, if_neg c, if_pos rfl, ← e29, ← e30]
        exact v1
    · rw [f 33 (by decide), f 32 (by decide)]
      exact v2
    · rw [f 37 (by decide), f 36 (by decide)]
      exact v3
    · rw [f 39 (by decide), f 38 (by decide)]
      exact v4)
/-- the tape, the small answers -/
theorem KQ_t {v : Nat → Int} {n : Nat} {b : Nat → Nat} (h : KQ M ps so z) (hF : ∀ a, a ≠ 1 → a ≠ 2 → a ≠ 3 → Ag M N a) (h1 : N.2.2 1 = M.2.2 1) (ht : TC N n b) (hv : KV N v) : KQ N ps so (z.1, z.2.1, (n, b), v, z.2.2.2.2) := by
  obtain ⟨k0, k1, k2, k3, k4, k5, k6, k7, k8⟩ := h
  have hp := k0.1
  have hs := k0.2.1
  refine ⟨?_, CU_ag k1 (by rw [h1]) fun a ha => (hF a (by omega) (by omega) (by omega)).1, CNm_fr k2 fun a x y => (hF a (by omega) (by omega) (by omega)).2.1, ht, KS_ag k4 hs fun a x y => hF a (by omega) (by omega) (by omega), hv, CTd_ag k6 (hF 30 (by omega) (by omega) (by omega)).1, CPl_ag k7 fun a ha => (hF a (by omega) (by omega) (by omega)).1, KM_ag k8 fun a x y => hF a (by omega) (by omega) (by omega)⟩
  unfold KA at k0 ⊢
  rw [h1]
  exact k0
theorem RQ_t {v : Nat → Int} {n : Nat} {b : Nat → Nat} (h : RQ M z) (hF : RF [401] T M N) (hT : ∀ j ∈ [23, 28, 43], j ∉ T) (ht : TR N n b) (hv : RVv N v) : RQ N (z.1, z.2.1, (n, b), v, z.2.2.2.2) := by
  obtain ⟨k0, k1, k2, k3, k4, k5, k6, k7⟩ := h
  have a : ∀ a, a ≠ 401 → a ≠ 400 → N.1 a = M.1 a ∧ N.2.1 a = M.2.1 a := fun a h2 h4 => hF.1 a (by simp [h2]) h4
  have j : ∀ j ∈ [23, 28, 43], N.1 400 j = M.1 400 j := fun i hi => hF.2.1 i (hT i hi)
  exact ⟨RU_ag k0 (fun x hx => (a x (by omega) (by omega)).1) (j 23 (by decide)), RNm_ag k1 (a 405 (by decide) (by decide)).2, ht, RWd_ag k3 (a 406 (by decide) (by decide)).2, hv, RTd_ag k5 (j 43 (by decide)) (a 414 (by decide) (by decide)).1, RPl_ag k6 (j 28 (by decide)) (a 411 (by decide) (by decide)).1, RM_ag k7 ⟨(a 417 (by decide) (by decide)).1, (a 419 (by decide) (by decide)).1, (a 418 (by decide) (by decide)).2⟩⟩
theorem s_built : Same 34 145 [] := same_of (fun z => builtA z.1.1 z.2.2.1.1 z.2.2.1.2) (fun z => (z.1, z.2.1, (0, z.2.2.1.2), upf z.2.2.2.1 5 (builtV z.1.1 z.2.2.1.1 z.2.2.1.2 (z.2.2.2.1 5)), z.2.2.2.2)) (fun _ _ _ _ _ _ p => p)
  (fun M ps so z h _ => by
    obtain ⟨v0, v1, v2, v3, v4, v5⟩ := h.2.2.2.2.2.1
    refine (b_built (d := 36) h.2.1.1 h.2.2.2.1 v5).mono fun r N q => ⟨q.1, ⟨ps, so, KQ_t h (fun a h1 h2 h3 => q.2.2.2.2.1 a (by omega) (by omega)) q.2.2.2.2.2.2.2 q.2.2.1 ?_⟩, FK_f1 q.2.2.2.2 (by omega)⟩
    have f := q.2.2.2.2.2.1
    exact ⟨(f 12 (by decide)).trans v0, (f 13 (by decide)).trans v1, (f 14 (by decide)).trans v2, (f 15 (by decide)).trans v3, (f 16 (by decide)).trans v4, q.2.2.2.1⟩)
  (fun M z h _ => by
    obtain ⟨v0, v1, v2, v3, v4⟩ := h.2.2.2.2.1
    refine (r_built (d := 36) h.1 h.2.2.1 v4).mono fun r N q => ⟨q.1, RQ_t h q.2.2.2.2 (by decide) q.2.2.1 ?_, FR_rf q.2.2.2.2 (by decide)⟩
    have f := q.2.2.2.2.2.1
    refine ⟨(f 15 (by decide)).trans v0, ?_, ?_, ?_, q.2.2.2.1⟩
    · rw [f 31 (by decide), f 29 (by decide), f 30 (by decide)]
      exact v1
    · rw [f 33 (by decide), f 32 (by decide)]
      exact v2
    · rw [f 37 (by decide), f 36 (by decide)]
      exact v3)
theorem KV_24 {v : Nat → Int} (h : KV M v) (hF : Fr 2 4 M N) : KV N v := KV_ag h (hF 1 (by omega)).1
theorem RVv_02 {v : Nat → Int} {L : List Nat} (h : RVv M v) (hF : RF L [0, 2] M N) : RVv N v := RVv_ag h fun j hj => hF.2.1 j (by simp; omega)
theorem s_feed {a b c e f : Int32} : Same 0 53 [.int a, .int b, .int c, .int e, .int f] := same_of (fun z => feedA z.2.2.1.1) (fun z => (z.1, z.2.1, (if 940 < z.2.2.1.1 + 20 then (z.2.2.1.1, z.2.2.1.2) else (z.2.2.1.1 + 20, feedB z.2.2.1.2 z.2.2.1.1 a b c e f)), z.2.2.2.1, z.2.2.2.2)) (fun _ _ _ _ _ _ p => p)
  (fun M ps so z h _ => (b_feed (d := 37) h.2.2.2.1).mono fun r N q => ⟨q.1, ⟨ps, so, KQ_t (n := (if 940 < z.2.2.1.1 + 20 then (z.2.2.1.1, z.2.2.1.2) else (z.2.2.1.1 + 20, feedB z.2.2.1.2 z.2.2.1.1 a b c e f)).1) (b := (if 940 < z.2.2.1.1 + 20 then (z.2.2.1.1, z.2.2.1.2) else (z.2.2.1.1 + 20, feedB z.2.2.1.2 z.2.2.1.1 a b c e f)).2) h (fun a h1 h2 h3 => q.2.2 a (by omega)) (q.2.2 1 (by omega)).2.2 (by
      have t := q.2.1
      split at t
      · rename_i g1
        rw [if_pos g1]
        exact t
      · rename_i g1
        rw [if_neg g1]
        exact t) (KV_24 h.2.2.2.2.2.1 q.2.2)⟩, FK_fr q.2.2 (by omega)⟩)
  (fun M z h _ => (r_feed (d := 37) h.2.2.1).mono fun r N q => ⟨q.1, RQ_t (n := (if 940 < z.2.2.1.1 + 20 then (z.2.2.1.1, z.2.2.1.2) else (z.2.2.1.1 + 20, feedB z.2.2.1.2 z.2.2.1.1 a b c e f)).1) (b := (if 940 < z.2.2.1.1 + 20 then (z.2.2.1.1, z.2.2.1.2) else (z.2.2.1.1 + 20, feedB z.2.2.1.2 z.2.2.1.1 a b c e f)).2) h q.2.2 (by decide) (by
      have t := q.2.1
      split at t
      · rename_i g1
        rw [if_pos g1]
        exact t
      · rename_i g1
        rw [if_neg g1]
        exact t) (RVv_02 h.2.2.2.2.1 q.2.2), FR_rf q.2.2 (by decide)⟩)
theorem s_end (hx : (-2147483648 ≤ x ∧ x < 2147483648)) : Same 1 55 [.int (I x)] := same_of (fun z => if 0 ≤ x ∧ x ≤ z.2.2.1.1 then 1 else 0) (fun z => (z.1, z.2.1, ((if 0 ≤ x ∧ x ≤ z.2.2.1.1 then x.toNat else z.2.2.1.1), z.2.2.1.2), z.2.2.2.1, z.2.2.2.2)) (fun _ _ _ _ _ _ p => p)
  (fun M ps so z h _ => (b_end (d := 38) h.2.2.2.1 hx).mono fun r N q => ⟨q.1, ⟨ps, so, KQ_t h (fun a h1 h2 h3 => q.2.2 a (by omega)) (q.2.2 1 (by omega)).2.2 q.2.1 (KV_24 h.2.2.2.2.2.1 q.2.2)⟩, FK_fr q.2.2 (by omega)⟩)
  (fun M z h _ => (r_end (d := 38) h.2.2.1 hx).mono fun r N q => ⟨q.1, RQ_t h q.2.2 (by decide) q.2.1 (RVv_02 h.2.2.2.2.1 q.2.2), FR_rf q.2.2 (by decide)⟩)
theorem s_said (hx : (-2147483648 ≤ x ∧ x < 2147483648)) : Same 41 165 [.int (I x)] := same_of' (fun z => saidA z.1.1 x)
  (fun M ps so z h p => by
    obtain ⟨k0, k1, k2, k3, k4, k5, k6, k7, k8⟩ := h
    have hp := k0.1
    have hs := k0.2.1
    have ho : Se so := by rcases hs with rfl | rfl <;> simp [Se]
    refine (b_said (d := 33) k1.1 ho k0.2.2.2.2.1 p.1 k4.1 hx).mono fun r N q => ⟨q.1, ?_, fun a h1 h2 => ⟨q.2.1 a (by omega), by rw [q.2.2]⟩⟩
    have f : ∀ a, a ≠ so + 4 → Ag M N a := fun a ha => ⟨q.2.1 a ha, by rw [q.2.2], by rw [q.2.2]⟩
    exact ⟨KA_ag k0 (f 1 (by omega)), CU_ag k1 (by rw [q.2.2]) fun a ha => (f a (by omega)).1, CNm_fr k2 fun a x y => (f a (by omega)).2.1, TC_ag k3 fun a ha => (f a (by omega)).1, ⟨CSq_fr k4.1 (fun a x y => (f a (by omega)).1) (by rw [q.2.2]), VE_fr k4.2.1 (by rw [q.2.2]), VE_fr k4.2.2 (by rw [q.2.2])⟩, KV_ag k5 (f 1 (by omega)).1, CTd_ag k6 (f 30 (by omega)).1, CPl_ag k7 fun a ha => (f a (by omega)).1, KM_ag k8 fun a x y => f a (by omega)⟩)
  (fun M z h p => (r_said (d := 34) h.1.1 h.1.2.2.1 h.1.2.2.2.1 p.1 hx).mono fun r N q => ⟨q.1, RQ_rf h q.2.1 (by decide) (by decide) (RU_ag h.1 (fun a ha => (q.2.1.1 a (by rcases ha with rfl | rfl <;> decide) (by omega)).1) (q.2.1.2.1 23 (by decide))), FR_rf q.2.1 (by decide)⟩)
end ACT3
