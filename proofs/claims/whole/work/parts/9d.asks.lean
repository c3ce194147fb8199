/-! ===== the calls that only ask ===== -/
section ASK2
variable {M N : Mm} {ps so : Nat} {z : ZS} {g' : Nat → Int} {u' : Nat} {us' : Nat → Nat → Int} {L T : List Nat}
theorem FR_rf (h : RF L T M N) (hL : ∀ a ∈ L, 400 ≤ a ∧ a < 420) : FR M N := ⟨fun a ha => h.1 a (fun q => ha (hL a q)) (by omega), h.2.2⟩
/-- only the numbers have changed, and what was kept of them -/
theorem RQ_ru (h : RQ M z) (hF : RF L T M N) (hL : ∀ a ∈ [401, 405, 406, 411, 414, 417, 418, 419], a ∉ L) (hT : ∀ j ∈ [2, 15, 28, 29, 30, 31, 32, 33, 36, 37, 38, 39, 43], j ∉ T) (hR : RU N g' u' us') (e : SameO z.1.1 g') : RQ N ((g', u', us'), z.2) := by
  obtain ⟨k0, k1, k2, k3, k4, k5, k6, k7⟩ := h
  have a : ∀ a ∈ [401, 405, 406, 411, 414, 417, 418, 419], N.1 a = M.1 a ∧ N.2.1 a = M.2.1 a := fun a ha => hF.1 a (hL a ha) (by rintro rfl; exact absurd ha (by decide))
  have j : ∀ j ∈ [2, 15, 28, 29, 30, 31, 32, 33, 36, 37, 38, 39, 43], N.1 400 j = M.1 400 j := fun i hi => hF.2.1 i (hT i hi)
  refine ⟨hR, RNm_o (fun i hi => e i (by omega)) (RNm_ag k1 (a 405 (by decide)).2), TR_ag k2 (j 2 (by decide)) (a 401 (by decide)).1, RWd_ag k3 (a 406 (by decide)).2, RVv_ag k4 fun i hi => j i ?_, RTd_ag k5 (j 43 (by decide)) (a 414 (by decide)).1, RPl_ag k6 (j 28 (by decide)) (a 411 (by decide)).1, RM_ag k7 ⟨(a 417 (by decide)).1, (a 419 (by decide)).1, (a 418 (by decide)).2⟩⟩
  have : i = 15 ∨ i = 29 ∨ i = 30 ∨ i = 31 ∨ i = 32 ∨ i = 33 ∨ i = 36 ∨ i = 37 ∨ i = 38 ∨ i = 39 := by omega
  rcases this with rfl | rfl | rfl | rfl | rfl | rfl | rfl | rfl | rfl | rfl <;> decide
theorem RQ_rf (h : RQ M z) (hF : RF L T M N) (hL : ∀ a ∈ [401, 405, 406, 411, 414, 417, 418, 419], a ∉ L) (hT : ∀ j ∈ [2, 15, 28, 29, 30, 31, 32, 33, 36, 37, 38, 39, 43], j ∉ T) (hR : RU N z.1.1 z.1.2.1 z.1.2.2) : RQ N z := RQ_ru h hF hL hT hR SameO.refl
theorem RQ_0 {v : Int32} (h : RQ M z) : RQ (sI M 400 0 v) z := RQ_rf h (RF.f (L := []) (T := [0]) (by decide)) (by decide) (by decide) (RU_ag h.1 (fun a ha => mI_fn (by omega)) (mI_n2 (by decide)))
theorem FR_0 {v : Int32} : FR M (sI M 400 0 v) := FR_rf (RF.f (L := []) (T := [0]) (by decide)) (by decide)
theorem FK_refl : FK M M := fun _ _ _ => ⟨rfl, rfl⟩
theorem same_ask {yB yR : Nat} {as : List Value} (a : ZS → Int) (hk : ∀ M ps so z, KQ M ps so z → PQ z → Ev 40 yB (.ref 1 :: as) M (some (.int (I (a z)))) M) (hr : ∀ M z, RQ M z → PQ z → Ev 40 yR (.ref 400 :: as) M (some (.int (I (a z)))) (sI M 400 0 (I 0))) : Same yB yR as :=
  same_of a (fun z => z) (fun _ _ _ _ _ _ h => h) (fun M ps so z h hp => ⟨_, _, hk M ps so z h hp, rfl, ⟨ps, so, h⟩, FK_refl⟩) fun M z h hp => ⟨_, _, hr M z h hp, rfl, RQ_0 h, FR_0⟩
variable {x y : Int}
theorem s_wall (hx : (-2147483648 ≤ x ∧ x < 2147483648)) (hy : (-2147483648 ≤ y ∧ y < 2147483648)) : Same 4 96 [.int (I x), .int (I y)] := same_ask (fun z => wallA z.1.1 x y) (fun _ _ _ _ h _ => b_wall (d := 36) h.2.1.1 hx hy) fun _ _ h _ => r_wall (d := 36) h.1.1 h.1.2.2.1 h.1.2.2.2.1 hx hy
theorem s_drain (hx : (-2147483648 ≤ x ∧ x < 2147483648)) (hy : (-2147483648 ≤ y ∧ y < 2147483648)) : Same 6 98 [.int (I x), .int (I y)] := same_ask (fun z => drainA z.1.1 x y) (fun _ _ _ _ h _ => b_drain (d := 36) h.2.1.1 hx hy) fun _ _ h _ => r_drain (d := 36) h.1.1 h.1.2.2.1 h.1.2.2.2.1 hx hy
theorem s_now (hx : (-2147483648 ≤ x ∧ x < 2147483648)) : Same 7 101 [.int (I x)] := same_ask (fun z => nowA z.1.1 x) (fun _ _ _ _ h _ => b_now (d := 36) h.2.1.1 hx) fun _ _ h _ => r_now (d := 36) h.1.1 h.1.2.2.1 h.1.2.2.2.1 hx
theorem s_posted (hx : (-2147483648 ≤ x ∧ x < 2147483648)) : Same 8 102 [.int (I x)] := same_ask (fun z => postedA z.1.1 x) (fun _ _ _ _ h _ => b_posted (d := 39) h.2.1.1 hx) fun _ _ h _ => r_posted (d := 38) h.1.1 hx
theorem s_takes (hx : (-2147483648 ≤ x ∧ x < 2147483648)) (hy : (-2147483648 ≤ y ∧ y < 2147483648)) : Same 14 121 [.int (I x), .int (I y)] := same_ask (fun z => takesA z.1.1 x y) (fun _ _ _ _ h _ => b_takes (d := 36) h.2.1.1 hx hy) fun _ _ h _ => r_takes (d := 36) h.1.1 h.1.2.2.1 hx hy
theorem s_lacks (hx : (-2147483648 ≤ x ∧ x < 2147483648)) : Same 15 122 [.int (I x)] := same_ask (fun z => lacksA z.1.1 x) (fun _ _ _ _ h _ => b_lacks (d := 36) h.2.1.1 hx) fun _ _ h _ => r_lacks (d := 36) h.1.1 h.1.2.2.1 h.1.2.2.2.1 hx
theorem s_leaks (hx : (-2147483648 ≤ x ∧ x < 2147483648)) (hy : (-2147483648 ≤ y ∧ y < 2147483648)) : Same 27 140 [.int (I x), .int (I y)] := same_ask (fun z => leaksA z.1.1 x y) (fun _ _ _ _ h _ => b_leaks (d := 36) h.2.1.1 hx hy) fun _ _ h _ => r_leaks (d := 36) h.1.1 h.1.2.2.1 h.1.2.2.2.1 hx hy
theorem s_count (hx : (-2147483648 ≤ x ∧ x < 2147483648)) : Same 44 168 [.int (I x)] := same_ask (fun z => countA z.1.1 z.2.2.1.1 x) (fun _ _ _ _ h _ => b_count (d := 39) h.2.1.1 h.2.2.2.1.1 hx) fun _ _ h _ => r_count (d := 39) h.1.1 h.2.2.1.1 hx
theorem s_fault : Same 3 85 [] := same_ask (fun z => z.2.2.2.1 0) (fun _ _ _ _ h _ => b_fault (d := 39) h.2.2.2.2.2.1.1) fun _ _ h _ => r_fault (d := 39) h.2.2.2.2.1.1
theorem s_crewed (hx : (-2147483648 ≤ x ∧ x < 2147483648)) : Same 21 132 [.int (I x)] := same_ask (fun z => if x = 0 then z.2.2.2.1 1 else if x = 1 then z.2.2.2.1 2 else -1) (fun _ _ _ _ h _ => b_crewed (d := 39) hx h.2.2.2.2.2.1.2.1 h.2.2.2.2.2.1.2.2.1) fun _ _ h _ => r_crewed (d := 38) hx h.2.2.2.2.1.2.1
theorem s_walling : Same 25 138 [] := same_ask (fun z => z.2.2.2.1 3) (fun _ _ _ _ h _ => b_walling (d := 39) h.2.2.2.2.2.1.2.2.2.1) fun _ _ h _ => r_walling (d := 39) h.2.2.2.2.1.2.2.1
theorem s_carried : Same 33 144 [] := same_ask (fun z => z.2.2.2.1 4) (fun _ _ _ _ h _ => b_carried (d := 39) h.2.2.2.2.2.1.2.2.2.2.1) fun _ _ h _ => r_carried (d := 39) h.2.2.2.2.1.2.2.2.1
theorem s_most : Same 35 146 [] := same_ask (fun z => z.2.2.2.1 5) (fun _ _ _ _ h _ => b_most (d := 39) h.2.2.2.2.2.1.2.2.2.2.2) fun _ _ h _ => r_most (d := 39) h.2.2.2.2.1.2.2.2.2
theorem ev_same {y : Nat} {args : List Value} {a : Int} {d : Nat} {N0 : Mm} (h : EvQ d y args M fun r N => r = some (.int (I a)) ∧ N = N0) : Ev d y args M (some (.int (I a))) N0 := by
  obtain ⟨r, N, e, rfl, rfl⟩ := h
  exact e
theorem s_told (hx : (-2147483648 ≤ x ∧ x < 2147483648)) : Same 39 155 [.int (I x)] := same_ask (fun z => toldA z.2.2.2.2.1.1 z.2.2.2.2.1.2 x) (fun _ _ _ _ h p => ev_same (b_told (d := 38) h.2.2.2.2.2.2.1 p.2.2.2.1 hx)) fun _ _ h p => ev_same (r_told (d := 38) h.2.2.2.2.2.1 p.2.2.2.1 hx)
theorem s_planAt (hx : (-2147483648 ≤ x ∧ x < 2147483648)) : Same 17 128 [.int (I x)] := same_ask (fun z => plaA z.2.2.2.2.2.1.1 z.2.2.2.2.2.1.2 x) (fun _ _ _ _ h p => ev_same (b_planAt (d := 38) h.2.2.2.2.2.2.2.1 p.2.2.2.2.1 hx)) fun _ _ h p => ev_same (r_planAt (d := 38) h.2.2.2.2.2.2.1 p.2.2.2.2.1 hx)
theorem same_of' {yB yR : Nat} {as : List Value} (a : ZS → Int) (hk : ∀ M ps so z, KQ M ps so z → PQ z → EvQ 40 yB (.ref 1 :: as) M fun r N => r = some (.int (I (a z))) ∧ KQ N ps so z ∧ FK M N) (hr : ∀ M z, RQ M z → PQ z → EvQ 40 yR (.ref 400 :: as) M fun r N => r = some (.int (I (a z))) ∧ RQ N z ∧ FR M N) : Same yB yR as :=
  same_of a (fun z => z) (fun _ _ _ _ _ _ h => h) (fun M ps so z h hp => (hk M ps so z h hp).mono fun _ _ q => ⟨q.1, ⟨ps, so, q.2.1⟩, q.2.2⟩) hr
theorem s_due (hx : (-2147483648 ≤ x ∧ x < 2147483648)) (hy : (-2147483648 ≤ y ∧ y < 2147483648)) : Same 26 139 [.int (I x), .int (I y)] := same_of' (fun z => dueA z.1.1 x y) (fun _ _ _ _ h _ => ⟨_, _, b_due (d := 36) h.2.1.1 hx hy, rfl, h, FK_refl⟩) fun M z h _ => (r_due (d := 36) h.1 hx hy).mono fun _ _ q => ⟨q.1, RQ_rf h q.2.2 (by decide) (by decide) q.2.1, FR_rf q.2.2 (by decide)⟩
/-- the class tries on the state beside -/
theorem KQ_cb (h : KQ M ps so z) (hF : Fr 205 209 M N) (hb : CB N ps z.1.1) : KQ N ps so z := by
  obtain ⟨k0, k1, k2, k3, k4, k5, k6, k7, k8⟩ := h
  have hp := k0.1
  have hs := k0.2.1
  exact ⟨KA_ag k0 (hF 1 (by omega)), CU_cb k1 hb fun a ha => (hF a (by omega)).1, CNm_fr k2 fun a x y => (hF a (by omega)).2.1, TC_ag k3 fun a ha => (hF a (by omega)).1, KS_ag k4 hs fun a x y => hF a (by omega), KV_ag k5 (hF 1 (by omega)).1, CTd_ag k6 (hF 30 (by omega)).1, CPl_ag k7 fun a ha => (hF a (by omega)).1, KM_ag k8 fun a x y => hF a (by omega)⟩
theorem FK_fr {a b : Nat} (h : Fr a b M N) (hb : b ≤ 400) : FK M N := fun x q _ => ⟨(h x (by omega)).1, (h x (by omega)).2.1⟩
theorem s_when (hx : (-2147483648 ≤ x ∧ x < 2147483648)) : Same 28 141 [.int (I x)] := same_of' (fun z => whenA z.1.1 x) (fun _ _ _ _ h _ => (b_when (d := 33) h.2.1.1 hx).mono fun _ _ q => ⟨q.1, KQ_cb h q.2.2 q.2.1, FK_fr q.2.2 (by omega)⟩) fun M z h _ => (r_when (d := 33) h.1 hx).mono fun _ _ q => ⟨q.1, RQ_rf h q.2.2 (by decide) (by decide) q.2.1, FR_rf q.2.2 (by decide)⟩
theorem s_last : Same 29 142 [] := same_of' (fun z => savedG (hrsG z.1.1 48)) (fun _ _ _ _ h _ => (b_last (d := 33) h.2.1.1).mono fun _ _ q => ⟨q.1, KQ_cb h q.2.2 q.2.1, FK_fr q.2.2 (by omega)⟩) fun M z h _ => (r_last (d := 33) h.1).mono fun _ _ q => ⟨q.1, RQ_rf h q.2.2 (by decide) (by decide) q.2.1, FR_rf q.2.2 (by decide)⟩
theorem s_odds {i : Int32} (hx : (-2147483648 ≤ x ∧ x < 2147483648)) (hy : (-2147483648 ≤ y ∧ y < 2147483648)) : Same 37 150 [.int (I x), .int (I y), .int i] := same_of' (fun z => oddsA z.1.1 x y i) (fun _ _ _ _ h _ => (b_odds (d := 33) h.2.1.1 hx hy).mono fun _ _ q => ⟨q.1, KQ_cb h q.2.2 q.2.1, FK_fr q.2.2 (by omega)⟩) fun M z h _ => (r_odds (d := 33) h.1 hx hy).mono fun _ _ q => ⟨q.1, RQ_rf h q.2.2 (by decide) (by decide) q.2.1, FR_rf q.2.2 (by decide)⟩
end ASK2
