/-! ===== the law's house ===== -/
section LHO
variable {M N : Mm} {d : Nat} {p0 p1 v : Int32} {ok : Prop}
theorem l_house_ok (hE : EvX d 5 [.ref 1, .int p0, .int p1] M ok (some (.int v)) N) (hk : ok) (hg : gh N = gh M) : EvL (d + 1) 275 [.ref 1, .int p0, .int p1, .ref 500] M (some (.int (I 0))) (sL (gs N) 500 0 v.toInt64) := by
  refine EvL.intro (C := k_Law_house) (as := [.int p0, .int p1]) (n := 2) (pcC := 5) (pcH := 13) (k := 4) ok_Law_house rfl (by decide +kernel) rfl rfl rfl rfl (by decide +kernel) rfl rfl lawF5.2.2.2.2.2 (by decide +kernel) lawF5.1 (by decide) (by decide +kernel) (by decide +kernel) lawF5.2.1 lawF5.2.2.1 lawF5.2.2.2.1 lawF5.2.2.2.2.1 rfl hE ?_ (by rw [gh_sL, gs_gh, hg])
  intro At step call
  refine call [.retAddr 0, .retAddr 0, .retAddr 0, .retAddr 0, .retAddr 0] [.int (I 0), .ref 500] (by decide) (fun _ => step 8 _ _ _ ?_) (fun no => absurd hk no)
  exact ⟨by decide +kernel, inR_e (show alen 500 = 1 by decide +kernel) (inR_c 0 1 (by decide)), rfl, rfl⟩
theorem l_house_no (hE : EvX d 5 [.ref 1, .int p0, .int p1] M ok (some (.int v)) N) (hk : ¬ ok) : EvL (d + 1) 275 [.ref 1, .int p0, .int p1, .ref 500] M (some (.int (I 1))) (gs M) := by
  refine EvL.intro (C := k_Law_house) (as := [.int p0, .int p1]) (n := 2) (pcC := 5) (pcH := 13) (k := 4) ok_Law_house rfl (by decide +kernel) rfl rfl rfl rfl (by decide +kernel) rfl rfl lawF5.2.2.2.2.2 (by decide +kernel) lawF5.1 (by decide) (by decide +kernel) (by decide +kernel) lawF5.2.1 lawF5.2.2.1 lawF5.2.2.2.1 lawF5.2.2.2.2.1 rfl hE ?_ gs_gh
  intro At step call
  refine call [.retAddr 0, .retAddr 0, .retAddr 0, .retAddr 0, .retAddr 0] [.int (I 0), .ref 500] (by decide) (fun y => absurd y hk) (fun _ => step 15 _ _ _ ?_)
  exact ⟨rfl, rfl⟩
end LHO
