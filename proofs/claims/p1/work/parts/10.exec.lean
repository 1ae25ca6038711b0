/-! ===== a call, and a whole run ===== -/
section AIC
variable {p : Program} {l : Launch} {e : Env} {R : Room} {s : State} {m : MethodId} {args : Array Value} {below : List Frame} {meth : Method} {c : Code} {H : Heap} {locs : List Loc} {cells slots mc ms : Nat} {Q : State → Prop}
variable {pc : Nat} {ls : Array Slot} {st : List Value} {D : va_G} {A : Nat → Prop} {H0 : Heap} {bs nL : Nat} {ad : List Nat} {w w' : ai_W} {r : Option ai_V} {mt : List ai_M}
theorem ai_call {cc : ByteArray} {own : String} (hx : p.tables.exec = Jvm.exec) (hb : c.code = cc) (hml : c.maxLocals = nL) (hown : s.vm.findClass own = some m.cls) (hts : ∀ w ∈ ww_ok, w.before args s = true) (hEN : ai_EN s)
    {N : ai_M} {d : Nat} {ins : Instr} {b : Nat} (hN : ai_NK mt N) (hCF : ai_CF own N ins b) (hd : decode cc pc = .ok (ins, 3)) {AS : List ai_V} {vs rest : List Value} (hAS : ai_RS bs ad AS vs) (hvl : vs.length = ai_na N) (hst : st = vs.reverse ++ rest) (hcat : (rest.map fun v => v.category).sum ≤ 8)
    (hrcv : ai_rv AS b w (ai_oc N) = true)
    (hls : ls.size = nL) (hW : ai_RW D s A bs ad w H) (hV : va_S A H0 H locs) (hA : ∀ q, H0.size ≤ q → A q)
    (hM : Met l (ai_y N) (ai_ws N) ({ frames := d, cells := mc, slots := ms, locals := 45 * d }) (ai_Pc D bs ad H.size w vs) (ai_Qc D bs ad H.size r w') mc ms (ai_FA ad H.size))
    (hfr : d + 1 ≤ R.frames) (hlo : 45 * (d + 1) ≤ R.locals) (hcells : cells + mc ≤ R.cells) (hslots : slots + ms ≤ R.slots)
    (kk : ∀ (v : Option Value) (H1 : Heap) (locs1 : List Loc) (ad' : List Nat), (∃ tl, ad' = ad ++ tl) → ai_RR bs ad' r v → ai_RW D s A bs ad' w' H1 → va_S A H0 H1 locs1 → W p l e R s m args below meth c H1 locs1 (cells + mc) (slots + ms) Q (F0 m (pc + 3) ls (v.toList ++ rest))) : W p l e R s m args below meth c H locs cells slots Q (F0 m pc ls st) := by
  obtain ⟨hN1, hN2, hN3, hN4, hN5, hN6, hN7, hN8⟩ := hN
  have hFA : ∀ q, ai_FA ad H.size q → A q := fun q hq => by
    rcases hq with hq | hq
    · exact hW.adA q hq
    · exact hA q (Nat.le_trans hV.1 hq)
  have fix : CallFix p m c cc nL s args ww_ok own := ⟨hx, hb, hml, hown, hts⟩
  have hroom : ({ frames := d, cells := mc, slots := ms, locals := 45 * d } : Room).frames + 1 ≤ R.frames ∧ 8 + (ai_ml N + 11) + ({ frames := d, cells := mc, slots := ms, locals := 45 * d } : Room).locals ≤ R.locals := ⟨hfr, by show 8 + (ai_ml N + 11) + 45 * d ≤ R.locals; omega⟩
  have hpre : ∀ U : State, U.heap = H → s.WarmedH U.vm → ai_Pc D bs ad H.size w vs vs.toArray U := fun U hU hWU => ⟨rfl, by rw [hU], hEN.warm hWU, by rw [hU]; exact (hW.moved hWU.alike).weaken (fun _ _ => trivial)⟩
  have hcb : ∀ (i n : Nat), Cond.methodLink own i (ai_y N) ∈ ww_ok → ai_par N = some n → CallB R s args own i (ai_y N) (ai_by N) (ai_ml N) (ai_rt' N) (ai_ws N) ({ frames := d, cells := mc, slots := ms, locals := 45 * d }) mc ms n := fun i n h1 h2 =>
    callB_of n hts (ww_goodIn N hN1) rfl rfl rfl (hts _ hN2) (hts _ h1) ⟨hN4.1, hN4.2, h2⟩ hroom
  obtain ⟨i, hCF⟩ := hCF
  rcases hCF with ⟨rfl, rfl, h1, h2, h3, ⟨k, hk1, hk2⟩, q, hq1, hq2⟩ | ⟨rfl, rfl, h1, h2, h3⟩ | ⟨rfl, rfl, h1, h2, h3, h4, k, hk1, hk2⟩ | ⟨rfl, rfl, h1, h2, h3, h4, k, hk1, hk2⟩
  · obtain ⟨k2, AS', rfl, hac⟩ := ai_rv_ok hrcv (by decide)
    obtain ⟨ac, hac, ht⟩ := hac rfl
    match vs, hAS with
    | u :: As, ⟨hu, hAS⟩ =>
      obtain ⟨ws, tys, hK, hP, hD, had, hlen, hR⟩ := id hW
      rw [had] at hu
      obtain ⟨a', e', rfl, he, hre⟩ := ai_obj hu (by rw [← had]; exact hR) hac
      have h7 := (ai_ck hq1).1
      obtain ⟨fs, rfl, -⟩ := hre.obj (by omega)
      have hrec := va_recv hK hP (ci := ac.1) (q := q) (by rw [ht]; exact hq1) he
      rw [hq2] at hrec
      exact ai_back (va_runV (As := As) (rest := rest) fix hM ⟨hcb i k h1 hk2, hts _ h2, hts _ h3⟩ ⟨ai_blind _ _ _ _ _ _, hrec, hpre⟩ rfl (by have := hvl; rw [List.length_cons] at this; omega) hls (by rw [hst, List.reverse_cons, List.append_assoc]; rfl) (lv_room hcat) hd ⟨hcells, hslots⟩) hV hFA kk
  · refine ai_back (va_runS (As := vs) (rest := rest) fix hM ⟨hcb i _ h1 h3, hts _ h2⟩ ⟨ai_blind _ _ _ _ _ _, hpre⟩ rfl hvl hls hst (lv_room hcat) hd ⟨hcells, hslots⟩) hV hFA kk
  · obtain ⟨k2, AS', rfl, -⟩ := ai_rv_ok hrcv (by decide)
    match vs, hAS with
    | u :: As, ⟨hu, hAS⟩ =>
      obtain ⟨a', h9, rfl⟩ := hu
      have hc2 := hcb i k h1 hk2
      rw [h4] at hc2
      exact ai_back (va_runI (As := As) (rest := rest) fix hM ⟨hc2, h3, hts _ h2⟩ ⟨ai_blind _ _ _ _ _ _, hpre⟩ rfl (by have := hvl; rw [List.length_cons] at this; omega) hls (by rw [hst, List.reverse_cons, List.append_assoc]; rfl) (lv_room hcat) hd ⟨hcells, hslots⟩) hV hFA kk
  · obtain ⟨k2, AS', rfl, -⟩ := ai_rv_ok hrcv (by decide)
    match vs, hAS with
    | u :: As, ⟨hu, hAS⟩ =>
      obtain ⟨a', h9, rfl⟩ := hu
      have hcn := va_cnB (host := "TheOtherRoom") k hts (ww_goodIn N hN1) rfl (rm := { frames := d, cells := mc, slots := ms, locals := 45 * d }) rfl rfl (hEN.2.1 _ h1) (hts _ hN2) ⟨hN4.1, hN4.2, hk2⟩ hroom
      rw [h4] at hcn
      exact ai_back (va_runIN (As := As) (rest := rest) fix hM ⟨hcn, h3, hts _ h2⟩ ⟨ai_blind _ _ _ _ _ _, hpre⟩ rfl (by have := hvl; rw [List.length_cons] at this; omega) hls (by rw [hst, List.reverse_cons, List.append_assoc]; rfl) (lv_room hcat) hd ⟨hcells, hslots⟩) hV hFA kk
theorem ai_cp_ok {cc : ByteArray} {own : String} (hx : p.tables.exec = Jvm.exec) (hb : c.code = cc) (hml : c.maxLocals = nL) (hls : ls.size = nL) (hown : s.vm.findClass own = some m.cls) (hts : ∀ w ∈ ww_ok, w.before args s = true) {i : Nat} (hlk : Cond.methodLink own i arraycopyName ∈ ww_ok) (hd : decode cc pc = .ok (.invokestatic i, 3))
    {S S' : List ai_V} (h : ai_cp S w = some (S', w')) (hW : ai_RW D s A bs ad w H) (hV : va_S A H0 H locs) (hS : ai_RS bs ad S st) (hfr : 1 ≤ R.frames) (hlo : 45 ≤ R.locals)
    (kk : ∀ (H1 : Heap) (locs1 : List Loc) (st' : List Value), ai_RW D s A bs ad w' H1 → va_S A H0 H1 locs1 → ai_RS bs ad S' st' → W p l e R s m args below meth c H1 locs1 cells slots Q (F0 m (pc + 3) ls st')) : W p l e R s m args below meth c H locs cells slots Q (F0 m pc ls st) := by
  unfold ai_cp at h
  split at h
  · next n dp k1 sp k0 rr =>
    split at h
    · next n' dp' hn hdp =>
      split at h
      · next sp' hsp =>
        split at h
        · next a0 a1 h0 h1 =>
          obtain ⟨hc, h⟩ := ai_bif h
          cases h
          rw [Bool.and_eq_true, Bool.and_eq_true, Bool.and_eq_true, Bool.and_eq_true, Nat.ble_eq, Nat.ble_eq, Nat.ble_eq] at hc
          obtain ⟨c1, c2, c3, c4, c5⟩ := hc
          have c1 := Nat.eq_of_beq_eq_true c1
          have c2 := Nat.eq_of_beq_eq_true c2
          match st, hS with
          | [_], hS => exact hS.2.elim
          | [_, _], hS => exact hS.2.2.elim
          | [_, _, _], hS => exact hS.2.2.2.elim
          | [_, _, _, _], hS => exact hS.2.2.2.2.elim
          | _ :: _ :: u1 :: _ :: u0 :: st', ⟨⟨x, rfl, x1, x2⟩, ⟨y, rfl, y1, y2⟩, hu1, ⟨z, rfl, z1, z2⟩, hu0, hS⟩ =>
            obtain ⟨-, e2, e3, -⟩ := ai_ix_ok hn x1 x2
            obtain ⟨-, f2, f3, -⟩ := ai_ix_ok hdp y1 y2
            obtain ⟨-, g2, g3, -⟩ := ai_ix_ok hsp z1 z2
            obtain ⟨ws, tys, hK, hP, hD, had, hlen, hR⟩ := id hW
            subst had
            obtain ⟨a1', e1', rfl, he1, hre1⟩ := ai_obj hu1 hR h1
            obtain ⟨a0', e0', rfl, he0, hre0⟩ := ai_obj hu0 hR h0
            obtain ⟨cA0, f0, t0, rfl, gt0, gf0⟩ := hre0.ints (ty := .int) (by rw [c1]; rfl)
            obtain ⟨cA1, f1, t1, rfl, gt1, gf1⟩ := hre1.ints (ty := .int) (by rw [c2]; rfl)
            have hnf : nativeFrameWords "java/lang/System" "arraycopy" 5 = 7 := by decide +kernel
            refine va_copyi hx hb (hml.trans hls.symm) hown (hts _ hlk) (hts _ ac_nat) (hts _ ac_stat) (hts _ ac_ini) hK hP hD hV k0 k1 t0 t1 he0 he1 gt0 gt1 rfl g3 f3 e3 (by rw [g2, e2]; exact c3) (by rw [f2, e2]; exact c4) (fun _ _ => rfl) hfr (by rw [ai_cs_ok hS, hnf]; omega) hd (fun H1 locs1 hP1 hD1 hS1 => ?_)
            exact kk H1 locs1 _ ⟨_, tys, hK, hP1, hD1, (ai_map_set he1).symm, by rw [List.length_set, List.length_set]; exact hlen, ai_cell_set he1 hR (Or.inr (Or.inl ⟨.int, cA1, _, t1, by rw [c2]; rfl, by rw [List.length_replicate], gt1, fun j v hj => by rw [List.eq_of_mem_replicate (List.mem_of_getElem? hj)]; exact ⟨_, rfl, ai_tI_ok _⟩⟩))⟩ hS1 hS
        · cases h
      · cases h
    · cases h
  · cases h
end AIC
set_option maxHeartbeats 1000000 in
theorem ai_ex_ok (l : Launch) (mt : List ai_M) (hmt : ∀ N ∈ mt, ai_NK mt N) : ∀ (f : Nat) (scr : List ai_V) (d : Nat) (M : ai_M) (cd : List ai_E) (pc : Nat) (L : ai_Ls) (S : List ai_V) (w : ai_W) (c0 s0 : Nat) (r : Option ai_V) (w' : ai_W) (C Z : Nat),
    ai_ex mt f scr d M cd pc L S w c0 s0 = some (r, w', C, Z) → (∀ x ∈ cd, x ∈ ai_cd M) → (∀ x ∈ ai_cd M, ai_EK mt M x) → c0 ≤ C ∧ s0 ≤ Z ∧ ai_GO l scr d M pc L S w c0 s0 r w' C Z := by
  intro f
  induction f with
  | zero =>
    intro scr d M cd pc L S w c0 s0 r w' C Z h
    cases h
  | succ f IH =>
    intro scr d M cd pc L S w c0 s0 r w' C Z h hsub hEK
    unfold ai_ex at h
    split at h
    · cases h
    · next pc0 g ins len a b z cd' =>
      have hq := ai_bif2 h
      clear h
      obtain ⟨hpc, h⟩ := hq
      have hpc2 := Nat.eq_of_beq_eq_true hpc
      clear hpc
      subst hpc2
      have hx := hEK _ (hsub _ List.mem_cons_self)
      have hsub' : ∀ x ∈ cd', x ∈ ai_cd M := fun x hx => hsub x (List.mem_cons_of_mem _ hx)
      obtain ⟨hdec, hx⟩ := hx
      dsimp only at hdec hx
      split at h
      · split at h
        · next L' S' hg =>
          have ih := IH _ _ _ _ _ _ _ _ _ _ _ _ _ _ h hsub' hEK
          obtain ⟨hl, hx1, hx2⟩ := hx
          refine ⟨ih.1, ih.2.1, ?_⟩
          intro p e R s m args below meth c H locs Q D A H0 bs ad ls st hF hW hV hL hS hret
          obtain ⟨g1, g2, g3, g4, g5, g6, g7⟩ := id hF
          exact ai_gL_ok g1 g2 g4 (by rw [hl]; exact hdec) (fun i hi => by obtain ⟨v, h1, h2⟩ := hx1 i hi; exact ⟨v, h1, g5 _ h2⟩) (fun i hi => by obtain ⟨tx, h1⟩ := hx2 i hi; obtain ⟨q, hq⟩ := g6.2.2 _ h1; exact ⟨tx, q, hq⟩) hg hL hS
            (fun ls' st' hL' hS' => by rw [hl]; exact ih.2.2 p e R s m args below meth c H locs Q D A H0 bs ad ls' st' hF hW hV hL' hS' hret)
        · cases h
      · split at h
        · next S' hg =>
          have ih := IH _ _ _ _ _ _ _ _ _ _ _ _ _ _ h hsub' hEK
          refine ⟨ih.1, ih.2.1, ?_⟩
          intro p e R s m args below meth c H locs Q D A H0 bs ad ls st hF hW hV hL hS hret
          obtain ⟨g1, g2, g3, g4, g5, g6, g7⟩ := id hF
          exact ai_gI_ok g1 g2 (by rw [hx]; exact hdec) hg hS (fun st' hS' => by rw [hx]; exact ih.2.2 p e R s m args below meth c H locs Q D A H0 bs ad ls st' hF hW hV hL hS' hret)
        · cases h
      · split at h
        · next t S' hg =>
          have ih := IH _ _ _ _ _ _ _ _ _ _ _ _ _ _ h (fun x hx => ai_jm_sub hx) hEK
          refine ⟨ih.1, ih.2.1, ?_⟩
          intro p e R s m args below meth c H locs Q D A H0 bs ad ls st hF hW hV hL hS hret
          obtain ⟨g1, g2, g3, g4, g5, g6, g7⟩ := id hF
          exact ai_gJ_ok g1 g2 hdec hx.1 hx.2 hg hS (fun st' hS' => ih.2.2 p e R s m args below meth c H locs Q D A H0 bs ad ls st' hF hW hV hL hS' hret)
        · next S' hg =>
          have ih := IH _ _ _ _ _ _ _ _ _ _ _ _ _ _ h hsub' hEK
          refine ⟨ih.1, ih.2.1, ?_⟩
          intro p e R s m args below meth c H locs Q D A H0 bs ad ls st hF hW hV hL hS hret
          obtain ⟨g1, g2, g3, g4, g5, g6, g7⟩ := id hF
          exact ai_gJ_ok g1 g2 hdec hx.1 hx.2 hg hS (fun st' hS' => ih.2.2 p e R s m args below meth c H locs Q D A H0 bs ad ls st' hF hW hV hL hS' hret)
        · cases h
      · split at h
        · next S' w1 dc ds hg =>
          have ih := IH _ _ _ _ _ _ _ _ _ _ _ _ _ _ h hsub' hEK
          obtain ⟨hl, hf⟩ := hx
          refine ⟨by have := ih.1; omega, by have := ih.2.1; omega, ?_⟩
          intro p e R s m args below meth c H locs Q D A H0 bs ad ls st hF hW hV hL hS hret
          obtain ⟨g1, g2, g3, g4, g5, g6, g7, g8, g9, g10, g11, g12, g13⟩ := id hF
          exact ai_gH_ok g1 g2 g4 g5 g6.1 g7 (fun q hq => cn_cl hq) (by rw [hl]; exact hdec) hf g8 hg hW hV g13 hS (by have := ih.1; omega) (by have := ih.2.1; omega)
            (fun H1 locs1 ad' st' hpre hW1 hV1 hS1 => by
              rw [hl]
              obtain ⟨t, rfl⟩ := hpre
              exact ih.2.2 p e R s m args below meth c H1 locs1 Q D A H0 bs _ ls st' hF hW1 hV1 (hL.mono t) hS1 (fun pc' ls' st' H1 locs1 ad' ins S' hpre' => hret pc' ls' st' H1 locs1 ad' ins S' (ai_pre_trans ⟨t, rfl⟩ hpre')))
        · cases h
      · split at h
        · next N d' hN =>
          obtain ⟨hc, h⟩ := ai_bif2 h
          rw [Bool.and_eq_true, Bool.and_eq_true, Bool.and_eq_true, Nat.ble_eq, Nat.ble_eq, Nat.ble_eq] at hc
          obtain ⟨hc1, hc2, hc3, hc4⟩ := hc
          split at h
          · next r1 w1 mc ms hin =>
            have hNK := hmt N (List.mem_of_getElem? hN)
            have ih := IH _ _ _ _ _ _ _ _ _ _ _ _ _ _ h hsub' hEK
            have ihN := IH _ _ _ _ _ _ _ _ _ _ _ _ _ _ hin (fun x hx => hx) hNK.2.2.2.2.2.2.2
            obtain ⟨hl, hcf⟩ := hx
            subst hl
            refine ⟨by have := ih.1; omega, by have := ih.2.1; omega, ?_⟩
            intro p e R s m args below meth c H locs Q D A H0 bs ad ls st hF hW hV hL hS hret
            obtain ⟨g1, g2, g3, g4, g5, g6, g7, g8, g9, g10, g11, g12, g13⟩ := id hF
            have hlsz : ls.size = ai_ml M := by obtain ⟨lv, h9, -⟩ := hL; exact h9.1
            have hT := hS.take (ai_na N)
            have hAS := hT.1.rev
            have hlen := hS.len
            refine ai_call g1 g2 g3 g4 g5 g6 hNK (hcf N hN) hdec hAS (by rw [List.length_reverse, List.length_take]; omega) (by rw [List.reverse_reverse, List.take_append_drop]) (by rw [ai_cs_ok hT.2]; exact hc1) hc4 hlsz hW hV g13
              (ai_met hNK hc3 ihN.2.2 D bs ad H.size _ hAS) (by omega) (by omega) (by have := ih.1; omega) (by have := ih.2.1; omega) (fun v H1 locs1 ad' hpre hrr hW1 hV1 => ?_)
            obtain ⟨t, rfl⟩ := hpre
            refine ih.2.2 p e R s m args below meth c H1 locs1 Q D A H0 bs _ ls _ hF hW1 hV1 (hL.mono t) ?_ (fun pc' ls' st' H1 locs1 ad' ins S' hpre' => hret pc' ls' st' H1 locs1 ad' ins S' (ai_pre_trans ⟨t, rfl⟩ hpre'))
            have hD := hT.2.mono t
            match r1, v, hrr with
            | none, none, _ => exact hD
            | some x, some u, hrr => exact ⟨hrr, hD⟩
          · cases h
        · cases h
      · split at h
        · next k rr d' =>
          obtain ⟨hc, h⟩ := ai_bif2 h
          rw [Nat.ble_eq] at hc
          have ih := IH _ _ _ _ _ _ _ _ _ _ _ _ _ _ h hsub' hEK
          obtain ⟨hl, i, rfl, hlk⟩ := hx
          subst hl
          refine ⟨ih.1, ih.2.1, ?_⟩
          intro p e R s m args below meth c H locs Q D A H0 bs ad ls st hF hW hV hL hS hret
          obtain ⟨g1, g2, g3, g4, g5, g6, g7, g8, g9, g10, g11, g12, g13⟩ := id hF
          have hlsz : ls.size = ai_ml M := by obtain ⟨lv, h9, -⟩ := hL; exact h9.1
          match st, hS with
          | u :: st', ⟨hu, hS⟩ =>
            obtain ⟨a', rfl⟩ := ai_RV.rsm hu
            refine W.objInit g1 g2 g4 (g5 _ hlk) (g5 _ oi_inst) (g5 _ oi_code) rfl (by rw [g3]; exact hlsz) rfl hdec (by omega) ?_ ?_
            · have := lv_room (m := m) (pc := pc0) (ls := ls) (rest := Value.ref a' :: st') (st := st') (by rw [ai_cs_ok hS]; exact hc)
              omega
            · exact ih.2.2 p e R s m args below meth c H locs Q D A H0 bs ad ls st' hF hW hV hL hS hret
        · cases h
      · split at h
        · next r1 hrc =>
          cases h
          refine ⟨Nat.le_refl _, Nat.le_refl _, ?_⟩
          intro p e R s m args below meth c H locs Q D A H0 bs ad ls st hF hW hV hL hS hret
          rw [hx] at hdec
          exact hret _ _ _ _ _ _ _ _ ⟨[], (List.append_nil _).symm⟩ hW hV hdec hrc hS
        · cases h
      · split at h
        · next S' w1 d' hcp =>
          have ih := IH _ _ _ _ _ _ _ _ _ _ _ _ _ _ h hsub' hEK
          obtain ⟨hl, i, rfl, hlk⟩ := hx
          subst hl
          refine ⟨ih.1, ih.2.1, ?_⟩
          intro p e R s m args below meth c H locs Q D A H0 bs ad ls st hF hW hV hL hS hret
          obtain ⟨g1, g2, g3, g4, g5, g6, g7, g8, g9, g10, g11, g12, g13⟩ := id hF
          have hlsz : ls.size = ai_ml M := by obtain ⟨lv, h9, -⟩ := hL; exact h9.1
          exact ai_cp_ok g1 g2 g3 hlsz g4 g5 hlk hdec hcp hW hV hS (by omega) (by omega) (fun H1 locs1 st' hW1 hV1 hS1 => ih.2.2 p e R s m args below meth c H1 locs1 Q D A H0 bs ad ls st' hF hW1 hV1 hL hS1 hret)
        · cases h
      · cases h
