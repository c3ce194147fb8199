/-! ===== a constructor's contract out of its run ===== -/
theorem CWd_self {D : va_G} {cA : Nat → ClassId} {ad : Nat → Nat} {dm : List Nat} {M : Mm} {H : Heap} {sz : Nat} (h : CWd D cA ad dm M (fun _ => True) H) : CWd D cA ad dm M (A0 ad dm sz) H := by
  refine ⟨h.1, ⟨h.2.1.1, fun k q hk => ?_⟩, h.2.2⟩
  unfold wsC at hk
  rw [List.getElem?_map] at hk
  cases hb : dm[k]? with
  | none => rw [hb] at hk; cases hk
  | some b =>
    rw [hb] at hk
    cases hk
    exact Or.inl ⟨b, List.mem_of_getElem? hb, rfl⟩
theorem kC_big {k : Nat} (h : 15 ≤ k) : kC k = [] := by
  unfold kC
  rw [List.getD_eq_getElem?_getD, List.getElem?_eq_none (by exact h)]
  rfl
theorem evC_of : ∀ (d k : Nat) (as : List Value) (σ σ' : Kst), cexec d k as σ = some σ' → EvC d k as σ σ'
  | 0, k, as, σ, σ', h => by cases h
  | d + 1, k, as, σ, σ', h => by
    by_cases hk : k < 15
    case neg =>
      exfalso
      unfold cexec at h
      rw [kC_big (by omega)] at h
      cases h
    unfold cexec at h
    split at h
    case h_2 => cases h
    rename_i pc' L' σ1 nc' ns' hrun
    cases hcnd : (Nat.ble (entL as).length (kM k) && (Nat.ble nc' (kmc k) && Nat.ble ns' (kms k))) with
    | false => rw [hcnd] at h; cases h
    | true =>
    rw [hcnd] at h
    cases h
    rw [Bool.and_eq_true, Bool.and_eq_true] at hcnd
    obtain ⟨c1, c2, c3⟩ := hcnd
    have c2 := Nat.le_of_ble_eq_true c2
    have c3 := Nat.le_of_ble_eq_true c3
    obtain ⟨m1, m2, m3, m4, m5, m6, m7, m8, m9⟩ := kok_e hk
    intro l D cA ad sz
    refine Met.ofW (cc := kB k) (maxL := kM k) (ret := none) m7 rfl ?_
    intro p e s m args' below meth c s₁ B hml hv
    obtain ⟨rfl, hsz, hW, hK, hX⟩ := hv
    subst hsz
    have hts := atoms_spec (ws := wsK k) B.pre
    have hown : s.vm.findClass (kN k).cls = some m.cls := findClass_of_methodNamed B.named
    have hret := B.returns
    have hlocks := B.notSynchronized
    have hB : BdC p (rmC (d + 1) k) s m (as.map (pv ad)).toArray meth c D cA (kB k) (kM k) (kCn k) d (kini k) :=
      ⟨B.exec, B.bytes, hml, by rw [m8]; exact hown, fun w hw => hts w (List.mem_cons_of_mem _ hw), hK, hX, ⟨Nat.le_refl _, Nat.le_refl _⟩, fun q => (name_of_methodNamed B.named B.method).1.trans (m3 q)⟩
    have hfin : (true = true → decode (kB k) pc' = .ok (.return_, 1)) → AtC p l e (rmC (d + 1) k) s m (as.map (pv ad)).toArray below meth c (MQ below (PostC D cA ad s.heap.size σ σ') (as.map (pv ad)).toArray s (kmc k) (kms k) (A0 ad σ.2.1 s.heap.size)) D cA (kM k) σ.2.1 ad pc' L' [] σ' nc' ns' := by
      intro hd ad' H locs ls h1 h2 hl hW' hS
      refine w_wide c2 c3 ?_
      have hq : ∀ t : State, t.heap = H → PostC D cA ad s.heap.size σ σ' (as.map (pv ad)).toArray s (.returned none) t := fun t ht => ⟨⟨rfl, h2, ad', h1, by rw [ht]; exact hW'⟩, hS.F ht⟩
      exact W.vret B.exec B.bytes hret (fun t ht _ => hq t ht) hS.2.2 (hd rfl)
    have hch := kchk k hk
    cases hC : kC k with
    | nil => rw [hC] at m9; cases m9
    | cons o rc =>
      have e0 : o.1 = 0 := by rw [hC] at m9; exact Option.some.inj m9
      have hA := csnd (res := (true, pc', L', [], σ', nc', ns')) hB (Nat.le_refl (kmc k)) (Nat.le_refl (kms k)) hch (evC_of d) hfin 2000 (kC k) hch _ [] σ 0 0 hrun o rc hC
      rw [e0] at hA
      have hle2 : (lg_sl (as.map (pv ad))).length ≤ kM k := by rw [entL_len]; exact Nat.le_of_ble_eq_true c1
      have hl := lv_entry (as.map (pv ad)) (n := kM k) hle2
      rw [lg_entry_eq]
      refine hA ad s.heap [] _ (fun _ _ => rfl) (fun _ h => h) ⟨hl.1, hl.2.1, ?_, fun i v hi hv => ?_⟩ (CWd_self hW) va_S.rf
      · rw [List.length_append, List.length_replicate]
        rw [entL_len] at hle2
        omega
      · rw [List.getElem?_append] at hi
        split at hi
        · have := hl.2.2 _ (entL_mem (ad := ad) as 0 i v hi hv)
          simpa using this
        · rw [List.getElem?_replicate] at hi
          split at hi
          · cases hi; cases hv
          · cases hi
