/-! ===== the law's own three: their call, returned or caught ===== -/
section LCA
variable {p : Program} {l : Launch} {e : Env} {R : Room} {s : State} {m : MethodId} {args : Array Value} {below : List Frame} {meth : Method} {c : Code} {Q : State → Prop}
variable {D : va_G} {ad : Nat → Nat} {cA : Nat → ClassId} {y d : Nat} {G : Nat → Prop} {cf sf : Nat → Nat} {pc : Nat} {M M' : Mm}
theorem law_call (B : Bd p R s m args c D ad cA y 14 d G cf sf) (hst0 : l.stackTraces = false) (hG : XG (AA ad s.heap.size) s s.heap) (hroom : cf (gh M) + 1 ≤ R.cells ∧ sf (gh M) + 6 ≤ R.slots) (hg1 : G (gh M + 1)) (hcf : cf (gh M + 1) = cf (gh M) + 1 ∧ sf (gh M + 1) = sf (gh M) + 6)
    {x : Jvm.ClassFile.ExceptionTableEntry} {k : Nat} (htab : c.exceptionTable.toList = [x]) (hx : covers x pc = true) (hx0 : x.catchType ≠ 0) (hlink : (Cond.classLink "BagsRiverLaw" x.catchType xE).before args s = true) (hcast : (Cond.castable xE xE).before args s = true) (hH : decode (yB y) x.handlerPc = .ok (.astore k, 2)) (hk : k < yM y)
    {idx n z cl b : Nat} {r : Option Value} {as rest L : List Value} {ok : Prop} (hd : decode (yB y) pc = .ok (.invokevirtual idx, 3)) (hz : z < 281) (hl : z ∉ yLaw) (hst : z ∉ yS) (hn : parN (yN z) n = true) (hlk2 : Cond.methodLink (Rn 14) idx (yN z) ∈ gtb) (hcl : (yN z).cls = (cq (cl - 1)).1) (hc1 : 1 ≤ cl ∧ cl ≤ 12) (hb : lay b = cl) (has : as.length = n) (hrest : rest.length ≤ 4) (hE : EvX d z (.ref b :: as) M ok r M')
    (ih1 : ok → AtW p l e R s m args below meth c Q D ad cA y G cf sf (pc + 3) L (r.toList ++ rest) (gs M')) (ih2 : ¬ ok → AtW p l e R s m args below meth c Q D ad cA y G cf sf (x.handlerPc + 2) [] [] (gs M)) : AtW p l e R s m args below meth c Q D ad cA y G cf sf pc L (as.reverse ++ .ref b :: rest) M := by
  intro hg H locs ls hlk hP hS
  have hrun := run_VX (l := l) (e := e) (below := below) (meth := meth) B hst0 hG hroom hd hz hl hst hn hlk2 hcl hc1 hb has hrest hE hlk.1 hP hS
  refine evx_go hrun hS (fun hok H1 locs1 hgh hP1 hS1 => ?_) (fun hno q ce H1 locs1 hP1 hS1 hce hcv hcl' => ?_)
  · have := ih1 hok (by rw [gs_gh, hgh]; exact hg1) H1 locs1 ls hlk (by rw [wsM_gs]; exact hP1) hS1
    rw [gs_gh, hgh, hcf.1, hcf.2] at this
    rw [map_toList]
    exact this
  · refine vx_catch (own := "BagsRiverLaw") (name := xE) (E := xE) (ce := ce) B.2.2.2.1 [] x [] (by rw [htab]; rfl) (fun z hz => nomatch hz) hx hx0 hlink hcast hce hcv hcl' ?_
    refine lv_astore B.1 B.2.1 hH hlk.has hk rfl fun ls2 h2 => ?_
    have := ih2 hno (by rw [gs_gh]; exact hg1) H1 locs1 ls2 ⟨h2.1, h2.2.1, Nat.zero_le _, fun i v hi => by simp at hi⟩ (by rw [wsM_gs]; exact hP1) hS1
    rw [gs_gh, hcf.1, hcf.2] at this
    exact this
end LCA
