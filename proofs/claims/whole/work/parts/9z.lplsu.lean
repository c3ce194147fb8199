/-! ===== the law's plan, sure ===== -/
section LPS
variable {M N : Mm} {d : Nat} {p0 p1 p2 v : Int32} {ok : Prop}
theorem l_plan_ok (hE : EvX d 16 [.ref 1, .int p0, .int p1] M ok (some (.int v)) N) (hk : ok) (hg : gh N = gh M) : EvL (d + 1) 276 [.ref 1, .int p0, .int p1, .ref 500] M (some (.int (I 0))) (sL (gs N) 500 0 v.toInt64) := by
  refine EvL.intro (C := k_Law_plan) (as := [.int p0, .int p1]) (n := 2) (pcC := 5) (pcH := 13) (k := 4) ok_Law_plan rfl (by decide +kernel) rfl rfl rfl rfl (by decide +kernel) rfl rfl lawF16.2.2.2.2.2 (by decide +kernel) lawF16.1 (by decide) (by decide +kernel) (by decide +kernel) lawF16.2.1 lawF16.2.2.1 lawF16.2.2.2.1 lawF16.2.2.2.2.1 rfl hE ?_ (by rw [gh_sL, gs_gh, hg])
  intro At step call
  refine call [.retAddr 0, .retAddr 0, .retAddr 0, .retAddr 0, .retAddr 0] [.int (I 0), .ref 500] (by decide) (fun _ => step 8 _ _ _ ?_) (fun no => absurd hk no)
  exact ⟨by decide +kernel, inR_e (show alen 500 = 1 by decide +kernel) (inR_c 0 1 (by decide)), rfl, rfl⟩
theorem l_plan_no (hE : EvX d 16 [.ref 1, .int p0, .int p1] M ok (some (.int v)) N) (hk : ¬ ok) : EvL (d + 1) 276 [.ref 1, .int p0, .int p1, .ref 500] M (some (.int (I 1))) (gs M) := by
  refine EvL.intro (C := k_Law_plan) (as := [.int p0, .int p1]) (n := 2) (pcC := 5) (pcH := 13) (k := 4) ok_Law_plan rfl (by decide +kernel) rfl rfl rfl rfl (by decide +kernel) rfl rfl lawF16.2.2.2.2.2 (by decide +kernel) lawF16.1 (by decide) (by decide +kernel) (by decide +kernel) lawF16.2.1 lawF16.2.2.1 lawF16.2.2.2.1 lawF16.2.2.2.2.1 rfl hE ?_ gs_gh
  intro At step call
  refine call [.retAddr 0, .retAddr 0, .retAddr 0, .retAddr 0, .retAddr 0] [.int (I 0), .ref 500] (by decide) (fun y => absurd y hk) (fun _ => step 15 _ _ _ ?_)
  exact ⟨rfl, rfl⟩
theorem l_sure_ok (hE : EvX d 18 [.ref 1, .int p0, .int p1, .int p2] M ok (some (.int v)) N) (hk : ok) (hg : gh N = gh M) : EvL (d + 1) 277 [.ref 1, .int p0, .int p1, .int p2, .ref 500] M (some (.int (I 0))) (sL (gs N) 500 0 v.toInt64) := by
  refine EvL.intro (C := k_Law_sure) (as := [.int p0, .int p1, .int p2]) (n := 3) (pcC := 7) (pcH := 15) (k := 5) ok_Law_sure rfl (by decide +kernel) rfl rfl rfl rfl (by decide +kernel) rfl rfl lawF18.2.2.2.2.2 (by decide +kernel) lawF18.1 (by decide) (by decide +kernel) (by decide +kernel) lawF18.2.1 lawF18.2.2.1 lawF18.2.2.2.1 lawF18.2.2.2.2.1 rfl hE ?_ (by rw [gh_sL, gs_gh, hg])
  intro At step call
  refine call [.retAddr 0, .retAddr 0, .retAddr 0, .retAddr 0, .retAddr 0, .retAddr 0] [.int (I 0), .ref 500] (by decide) (fun _ => step 10 _ _ _ ?_) (fun no => absurd hk no)
  exact ⟨by decide +kernel, inR_e (show alen 500 = 1 by decide +kernel) (inR_c 0 1 (by decide)), rfl, rfl⟩
theorem l_sure_no (hE : EvX d 18 [.ref 1, .int p0, .int p1, .int p2] M ok (some (.int v)) N) (hk : ¬ ok) : EvL (d + 1) 277 [.ref 1, .int p0, .int p1, .int p2, .ref 500] M (some (.int (I 1))) (gs M) := by
  refine EvL.intro (C := k_Law_sure) (as := [.int p0, .int p1, .int p2]) (n := 3) (pcC := 7) (pcH := 15) (k := 5) ok_Law_sure rfl (by decide +kernel) rfl rfl rfl rfl (by decide +kernel) rfl rfl lawF18.2.2.2.2.2 (by decide +kernel) lawF18.1 (by decide) (by decide +kernel) (by decide +kernel) lawF18.2.1 lawF18.2.2.1 lawF18.2.2.2.1 lawF18.2.2.2.2.1 rfl hE ?_ gs_gh
  intro At step call
  refine call [.retAddr 0, .retAddr 0, .retAddr 0, .retAddr 0, .retAddr 0, .retAddr 0] [.int (I 0), .ref 500] (by decide) (fun y => absurd y hk) (fun _ => step 17 _ _ _ ?_)
  exact ⟨rfl, rfl⟩
end LPS
