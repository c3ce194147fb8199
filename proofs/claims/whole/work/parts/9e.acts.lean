/-! ===== the calls that act ===== -/
section ACT2
variable {M N : Mm} {ps so : Nat} {z : ZS} {g' : Nat → Int} {u' : Nat} {us' : Nat → Nat → Int} {L T : List Nat} {x y w : Int}
theorem KQ_act (h : KQ M ps so z) (hF : Fr2 20 22 200 250 M N) (hu : CU N ps g' u' us') (e : SameO z.1.1 g') : KQ N ps so ((g', u', us'), z.2) := by
  obtain ⟨k0, k1, k2, k3, k4, k5, k6, k7, k8⟩ := h
  have hp := k0.1
  have hs := k0.2.1
  have f : ∀ a, ¬ (20 ≤ a ∧ a < 22) → ¬ (200 ≤ a ∧ a < 250) → Ag M N a := fun a q1 q2 => hF a (by omega) (by omega)
  obtain ⟨s1, s2, s3⟩ := KS_ag (N := N) k4 hs fun a x y => f a (by omega) (by omega)
  exact ⟨KA_ag k0 (f 1 (by omega) (by omega)), hu, CNm_o (fun i hi => e i (by omega)) (CNm_fr k2 fun a x y => (f a (by omega) (by omega)).2.1), TC_ag k3 fun a ha => (f a (by omega) (by omega)).1, ⟨CSq_o e s1, s2, s3⟩, KV_ag k5 (f 1 (by omega) (by omega)).1, CTd_ag k6 (f 30 (by omega) (by omega)).1, CPl_ag k7 fun a ha => (f a (by omega) (by omega)).1, KM_ag k8 fun a x y => f a (by omega) (by omega)⟩
theorem PQ_o (h : PQ z) (e : SameO z.1.1 g') : PQ ((g', u', us'), z.2) := ⟨SG_o e h.1, NMo_o (fun i hi => e i (by omega)) h.2.1, NMd_o (fun i hi => e i (by omega)) h.2.2.1, h.2.2.2⟩
theorem FK_2 (h : Fr2 20 22 200 250 M N) : FK M N := fun a q _ => ⟨(h a (by omega) (by omega)).1, (h a (by omega) (by omega)).2.1⟩
theorem act_o {b : Bool} {g f : Nat → Int} (h : b = true → SameO g f) : SameO g (actG b f g) := by
  unfold actG
  cases b with
  | true => exact h rfl
  | false => exact SameO.refl
theorem same_act {yB yR : Nat} {as : List Value} (a : (Nat → Int) → Int) (b : (Nat → Int) → Bool) (f : (Nat → Int) → Nat → Int) (hT : ∀ j ∈ [2, 15, 28, 29, 30, 31, 32, 33, 36, 37, 38, 39, 43], j ∉ T) (ho : ∀ g, RGs g → RGd g → RN g → b g = true → SameO g (f g))
    (hk : ∀ M ps g u us, CU M ps g u us → EvQ 40 yB (.ref 1 :: as) M fun r N => r = some (.int (I (a g))) ∧ CU N ps (actG (b g) (f g) g) (keptN (b g) u) (keptU (b g) g us) ∧ Fr2 20 22 200 250 M N)
    (hr : ∀ M g u us, RU M g u us → EvQ 40 yR (.ref 400 :: as) M fun r N => r = some (.int (I (a g))) ∧ RU N (actG (b g) (f g) g) (keptN (b g) u) (keptU (b g) g us) ∧ RF [402, 407] T M N) : Same yB yR as :=
  same_of (fun z => a z.1.1) (fun z => ((actG (b z.1.1) (f z.1.1) z.1.1, keptN (b z.1.1) z.1.2.1, keptU (b z.1.1) z.1.1 z.1.2.2), z.2))
    (fun M ps so z h _ p => PQ_o p (act_o (ho _ h.2.1.1.2.2.2.2.1 h.2.1.1.2.2.2.2.2.1 h.2.1.1.2.2.2.2.2.2)))
    (fun M ps so z h _ => (hk M ps _ _ _ h.2.1).mono fun _ _ q => ⟨q.1, ⟨ps, so, KQ_act h q.2.2 q.2.1 (act_o (ho _ h.2.1.1.2.2.2.2.1 h.2.1.1.2.2.2.2.2.1 h.2.1.1.2.2.2.2.2.2))⟩, FK_2 q.2.2⟩)
    fun M z h _ => (hr M _ _ _ h.1).mono fun _ _ q => ⟨q.1, RQ_ru h q.2.2 (by decide) hT q.2.1 (act_o (ho _ h.1.2.2.1 h.1.2.2.2.1 h.1.2.2.2.2)), FR_rf q.2.2 (by decide)⟩
theorem s_post (hx : (-2147483648 ≤ x ∧ x < 2147483648)) (hy : (-2147483648 ≤ y ∧ y < 2147483648)) (hw : (-2147483648 ≤ w ∧ w < 2147483648)) : Same 9 113 [.int (I x), .int (I y), .int (I w)] := same_act (fun g => postA g x y w) (fun g => decide (postA g x y w = 0)) (fun g => postsG g x y w) (by decide) (fun _ _ _ _ _ => postsG_o) (fun _ _ _ _ _ h => b_post (d := 35) h hx hy hw) fun _ _ _ _ h => r_post (d := 35) h hx hy hw
theorem s_quit (hx : (-2147483648 ≤ x ∧ x < 2147483648)) : Same 10 114 [.int (I x)] := same_act (fun g => quitA g x) (fun g => decide (quitA g x = 0)) (fun g => quitsG g x.toNat) (by decide) (fun g hs _ _ e => by
  have e := of_decide_eq_true e
  have h0 := hs.1.1
  unfold quitA at e
  by_cases c : 0 ≤ x ∧ x < g 0
  · exact quitsG_o (by omega)
  · rw [if_neg c] at e
    exact absurd e (by decide)) (fun _ _ _ _ _ h => b_quit (d := 35) h hx) fun _ _ _ _ h => r_quit (d := 35) h hx
theorem s_up (hx : (-2147483648 ≤ x ∧ x < 2147483648)) : Same 11 115 [.int (I x)] := same_act (fun g => upA g x) (fun g => decide (upA g x = 0)) (fun g => upsG g x.toNat) (by decide) (fun _ _ _ _ _ => upsG_o) (fun _ _ _ _ _ h => b_up (d := 35) h hx) fun _ _ _ _ h => r_up (d := 35) h hx
theorem s_hours (hx : (-2147483648 ≤ x ∧ x < 2147483648)) : Same 12 116 [.int (I x)] := same_act (fun g => hoursA g x) (fun g => decide (0 < hoursA g x)) (fun g => hrsG g x.toNat) (by decide) (fun _ hs hd hn _ => hrsG_o hs hd hn) (fun _ _ _ _ _ h => b_hours (d := 34) h hx) fun _ _ _ _ h => r_hours (d := 34) h hx
theorem s_drawn {i : Int32} (hx : (-2147483648 ≤ x ∧ x < 2147483648)) : Same 36 149 [.int (I x), .int i] := same_act (fun g => hoursA g x) (fun g => decide (0 < hoursA g x)) (fun g => drwG g i x.toNat) (by decide) (fun _ hs hd hn _ => drwG_o hs hd hn) (fun _ _ _ _ _ h => b_drawn (d := 34) h hx) fun _ _ _ _ h => r_drawn (d := 34) h hx
theorem s_undo : Same 13 118 [] := by
  rintro M ⟨ps, so, z, h1, h2, h3⟩
  have hU := h1.2.1.2.2
  have eo : SameO z.1.1 (actG (decide (0 < z.1.2.1)) (mixG z.1.1 (z.1.2.2 0)) z.1.1) := act_o fun _ => mixG_o
  obtain ⟨r, N1, e1, rfl, q1, q2⟩ := b_undo (d := 36) h1.2.1
  have h2' := RQ_fr h2 (FK_2 q2)
  obtain ⟨r, N2, e2, rfl, p1, p2, p3, p4, p5⟩ := r_undo (d := 39) h2'.1.1 h2'.1.2.1
  have hF : RF [402] [0, 23] N1 N2 := ⟨fun a ha h4 => ⟨p3 a h4 (fun q => ha (by simp [q])), by rw [p5]⟩, fun j hj => p4 j (fun q => hj (by simp [q])) (fun q => hj (by simp [q])), by rw [p5]⟩
  refine ⟨_, N1, e1, N2, e2, ps, so, ((actG (decide (0 < z.1.2.1)) (mixG z.1.1 (z.1.2.2 0)) z.1.1, z.1.2.1 - 1, if 0 < z.1.2.1 then tailU z.1.2.2 else z.1.2.2), z.2), KQ_fr (KQ_act h1 q2 q1 eo) (FR_rf hF (by decide)), RQ_ru h2' hF (by decide) (by decide) ⟨?_, p1, q1.1.2.2.2.2⟩ eo, PQ_o h3 eo⟩
  rw [p2]
  funext k
  unfold actG
  by_cases c : 0 < z.1.2.1
  · rw [if_pos c, if_pos (decide_eq_true c)]
  · rw [if_neg c, if_neg (by simpa using c)]
/-- the class tries beside, and keeps an answer -/
theorem KQ_f1 {v : Nat → Int} (h : KQ M ps so z) (hF : F1 205 209 T M N) (hb : CB N ps z.1.1) (hv : KV N v) : KQ N ps so (z.1, z.2.1, z.2.2.1, v, z.2.2.2.2) := by
  obtain ⟨k0, k1, k2, k3, k4, k5, k6, k7, k8⟩ := h
  have hp := k0.1
  have hs := k0.2.1
  have f : ∀ a, a ≠ 1 → ¬ (205 ≤ a ∧ a < 209) → Ag M N a := fun a q1 q2 => hF.1 a (by omega) (by omega)
  refine ⟨?_, CU_cb k1 hb fun a ha => (f a (by omega) (by omega)).1, CNm_fr k2 fun a x y => (f a (by omega) (by omega)).2.1, TC_ag k3 fun a ha => (f a (by omega) (by omega)).1, KS_ag k4 hs fun a x y => f a (by omega) (by omega), hv, CTd_ag k6 (f 30 (by omega) (by omega)).1, CPl_ag k7 fun a ha => (f a (by omega) (by omega)).1, KM_ag k8 fun a x y => f a (by omega) (by omega)⟩
  unfold KA at k0 ⊢
  rw [hF.2.2.2]
  exact k0
theorem FK_f1 {a b : Nat} (h : F1 a b T M N) (hb : b ≤ 400) : FK M N := fun x q _ => ⟨(h.1 x (by omega) (by omega)).1, (h.1 x (by omega) (by omega)).2.1⟩
/-- the reference likewise -/
theorem RQ_v {v : Nat → Int} (h : RQ M z) (hF : RF [402] T M N) (hT : ∀ j ∈ [2, 28, 43], j ∉ T) (hR : RU N z.1.1 z.1.2.1 z.1.2.2) (hv : RVv N v) : RQ N (z.1, z.2.1, z.2.2.1, v, z.2.2.2.2) := by
  obtain ⟨k0, k1, k2, k3, k4, k5, k6, k7⟩ := h
  have a : ∀ a, a ≠ 402 → a ≠ 400 → N.1 a = M.1 a ∧ N.2.1 a = M.2.1 a := fun a h2 h4 => hF.1 a (by simp [h2]) h4
  have j : ∀ j ∈ [2, 28, 43], N.1 400 j = M.1 400 j := fun i hi => hF.2.1 i (hT i hi)
  exact ⟨hR, RNm_ag k1 (a 405 (by decide) (by decide)).2, TR_ag k2 (j 2 (by decide)) (a 401 (by decide) (by decide)).1, RWd_ag k3 (a 406 (by decide) (by decide)).2, hv, RTd_ag k5 (j 43 (by decide)) (a 414 (by decide) (by decide)).1, RPl_ag k6 (j 28 (by decide)) (a 411 (by decide) (by decide)).1, RM_ag k7 ⟨(a 417 (by decide) (by decide)).1, (a 419 (by decide) (by decide)).1, (a 418 (by decide) (by decide)).2⟩⟩
theorem PQ_v {v : Nat → Int} (h : PQ z) : PQ (z.1, z.2.1, z.2.2.1, v, z.2.2.2.2) := h
def vA (v : Nat → Int) (i : Nat) (x : Int) : Nat → Int := upf v i x
theorem s_rests (hx : (-2147483648 ≤ x ∧ x < 2147483648)) (hy : (-2147483648 ≤ y ∧ y < 2147483648)) : Same 22 137 [.int (I x), .int (I y)] := same_of (fun z => restsA z.1.1 x y) (fun z => (z.1, z.2.1, z.2.2.1, upf z.2.2.2.1 3 (wallingN z.1.1 x y (z.2.2.2.1 3)), z.2.2.2.2)) (fun _ _ _ _ _ _ p => PQ_v p)
  (fun M ps so z h _ => by
    obtain ⟨v0, v1, v2, v3, v4, v5⟩ := h.2.2.2.2.2.1
    refine (b_rests (d := 36) h.2.1.1 hx hy v3).mono fun r N q => ⟨q.1, ⟨ps, so, KQ_f1 h q.2.2.2 q.2.1 ?_⟩, FK_f1 q.2.2.2 (by omega)⟩
    have f := q.2.2.2.2.1
    exact ⟨(f 12 (by decide)).trans v0, (f 13 (by decide)).trans v1, (f 14 (by decide)).trans v2, q.2.2.1, (f 16 (by decide)).trans v4, (f 17 (by decide)).trans v5⟩)
  (fun M z h _ => by
    obtain ⟨v0, v1, v2, v3, v4⟩ := h.2.2.2.2.1
    refine (r_rests (d := 34) h.1 hx hy v2).mono fun r N q => ⟨q.1, RQ_v h q.2.2.2 (by decide) q.2.1 ?_, FR_rf q.2.2.2 (by decide)⟩
    have f := q.2.2.2.2.1
    refine ⟨(f 15 (by decide)).trans v0, ?_, q.2.2.1, ?_, ?_⟩
    · rw [f 31 (by decide), f 29 (by decide), f 30 (by decide)]
      exact v1
    · rw [f 37 (by decide), f 36 (by decide)]
      exact v3
    · rw [f 39 (by decide), f 38 (by decide)]
      exact v4)
theorem s_carpets (hx : (-2147483648 ≤ x ∧ x < 2147483648)) : Same 31 143 [.int (I x)] := same_of (fun z => carpA z.1.1 x) (fun z => (z.1, z.2.1, z.2.2.1, upf z.2.2.2.1 4 (carpN z.1.1 x (z.2.2.2.1 4)), z.2.2.2.2)) (fun _ _ _ _ _ _ p => PQ_v p)
  (fun M ps so z h _ => by
    obtain ⟨v0, v1, v2, v3, v4, v5⟩ := h.2.2.2.2.2.1
    refine (b_carpets (d := 37) h.2.1.1 hx v4).mono fun r N q => ⟨q.1, ⟨ps, so, KQ_f1 h q.2.2.2 q.2.1 ?_⟩, FK_f1 q.2.2.2 (by omega)⟩
    have f := q.2.2.2.2.1
    exact ⟨(f 12 (by decide)).trans v0, (f 13 (by decide)).trans v1, (f 14 (by decide)).trans v2, (f 15 (by decide)).trans v3, q.2.2.1, (f 17 (by decide)).trans v5⟩)
  (fun M z h _ => by
    obtain ⟨v0, v1, v2, v3, v4⟩ := h.2.2.2.2.1
    refine (r_carpets (d := 36) h.1 hx v3).mono fun r N q => ⟨q.1, RQ_v h q.2.2.2 (by decide) q.2.1 ?_, FR_rf q.2.2.2 (by decide)⟩
    have f := q.2.2.2.2.1
    refine ⟨(f 15 (by decide)).trans v0, ?_, ?_, q.2.2.1, ?_⟩
    · rw [f 31 (by decide), f 29 (by decide), f 30 (by decide)]
      exact v1
    · rw [f 33 (by decide), f 32 (by decide)]
      exact v2
    · rw [f 39 (by decide), f 38 (by decide)]
      exact v4)
end ACT2
