/-! ===== the heap's instructions hold ===== -/
theorem ai_bif2 {α : Type} {c : Bool} {x : Option α} {y : α} (h : (bif c then x else none) = some y) : c = true ∧ x = some y := by
  cases c with
  | true => exact ⟨rfl, h⟩
  | false => cases h
theorem ac_int : Cond.arrayClass .int ∈ ww_ok := ww_t 180 (by decide +kernel)
theorem ac_long : Cond.arrayClass .long ∈ ww_ok := ww_t 179 (by decide +kernel)
theorem ac_byte : Cond.arrayClass .byte ∈ ww_ok := ww_t 56 (by decide +kernel)
theorem ac_bool : Cond.arrayClass .boolean ∈ ww_ok := ww_t 278 (by decide +kernel)
theorem ai_upd {b : Nat} {ad : List Nat} {vs : List ai_V} {f : Nat → Int32} {i : Nat} {x : ai_V} {y : Int32} (h : ∀ (j : Nat) (v : ai_V), vs[j]? = some v → ai_RV b ad v (.int (f j))) (hx : ai_RV b ad x (.int y)) : ∀ (j : Nat) (v : ai_V), (vs.set i x)[j]? = some v → ai_RV b ad v (.int (upd f i y j)) := by
  intro j v hj
  have h9 := ai_arr_set h hx j v hj
  by_cases q : j = i
  · rw [if_pos q] at h9
    rw [show upd f i y j = y from if_pos q]
    exact h9
  · rw [if_neg q] at h9
    rw [show upd f i y j = f j from if_neg q]
    exact h9
theorem ai_updL {b : Nat} {ad : List Nat} {vs : List ai_V} {f : Nat → Int64} {i : Nat} {x : ai_V} {y : Int64} (h : ∀ (j : Nat) (v : ai_V), vs[j]? = some v → ai_RV b ad v (.long (f j))) (hx : ai_RV b ad x (.long y)) : ∀ (j : Nat) (v : ai_V), (vs.set i x)[j]? = some v → ai_RV b ad v (.long (vp_updL f i y j)) := by
  intro j v hj
  have h9 := ai_arr_set h hx j v hj
  by_cases q : j = i
  · rw [if_pos q] at h9
    rw [show vp_updL f i y j = y from if_pos q]
    exact h9
  · rw [if_neg q] at h9
    rw [show vp_updL f i y j = f j from if_neg q]
    exact h9
theorem ai_updR {b : Nat} {ad : List Nat} {vs : List ai_V} {f : Nat → Option Nat} {i : Nat} {x : ai_V} {y : Option Nat} (h : ∀ (j : Nat) (v : ai_V), vs[j]? = some v → ai_RV b ad v (va_rf (f j))) (hx : ai_RV b ad x (va_rf y)) : ∀ (j : Nat) (v : ai_V), (vs.set i x)[j]? = some v → ai_RV b ad v (va_rf (va_up f i y j)) := by
  intro j v hj
  have h9 := ai_arr_set (g := fun j => va_rf (f j)) h hx j v hj
  by_cases q : j = i
  · rw [if_pos q] at h9
    rw [show va_up f i y j = y from if_pos q]
    exact h9
  · rw [if_neg q] at h9
    rw [show va_up f i y j = f j from if_neg q]
    exact h9
theorem ai_dvs {b : Nat} {ad : List Nat} {f : Nat → FieldType} : ∀ (l : List Nat), (∀ k ∈ l, ai_okT (f k) = true) → ai_RS b ad (l.map (fun k => ai_dv (f k))) (l.map (fun k => defaultValue (f k)))
  | [], _ => trivial
  | k :: l, h => ⟨ai_dv_ok (h k List.mem_cons_self), ai_dvs l (fun j hj => h j (List.mem_cons_of_mem _ hj))⟩
theorem ai_last {q n : Nat} {ws : va_W} {w : ai_W} {e : va_E} (hlen : w.length = ws.length) : ((ws ++ [(q, e)]).map Prod.fst)[w.length]? = some q := by
  rw [List.map_append, hlen, List.getElem?_append_right (by rw [List.length_map]; exact Nat.le_refl _), List.length_map, Nat.sub_self]
  rfl
theorem ai_one {b : Nat} {ad : List Nat} {tys tx : List (ClassId × FieldType)} {ws : va_W} {w : ai_W} {q : Nat} {e : va_E} {ac : ai_C} (hlen : w.length = ws.length) (had : ad = ws.map Prod.fst) (hR : ∀ (k : Nat) (ac : ai_C), w[k]? = some ac → ∃ q, ws[k]? = some q ∧ ai_RE b ad tys ac q.2)
    (he : ai_RE b (ad ++ [q]) (tys ++ tx) ac e) : ∀ (j : Nat) (bc : ai_C), (w ++ [ac])[j]? = some bc → ∃ q', (ws ++ [(q, e)])[j]? = some q' ∧ ai_RE b (ad ++ [q]) (tys ++ tx) bc q'.2 :=
  ai_cell_push (wx := [(q, e)]) hlen had hR (fun k bc hk => by
    match k, hk with
    | 0, hk => cases hk; exact ⟨_, rfl, he⟩)
section AIH2
variable {p : Program} {l : Launch} {e : Env} {R : Room} {s : State} {m : MethodId} {args : Array Value} {below : List Frame} {meth : Method} {c : Code} {H : Heap} {locs : List Loc} {cells slots : Nat} {Q : State → Prop}
variable {cc : ByteArray} {pc : Nat} {ls : Array Slot} {st : List Value} {bs nL : Nat} {ad : List Nat} {S S' : List ai_V} {D : va_G} {A : Nat → Prop} {H0 : Heap} {w w' : ai_W} {dc ds : Nat}
variable {cl : List vw_C} {tys : List (ClassId × FieldType)} {ws : va_W} {rest : List Value} {a : Nat}
theorem ai_aald (hexec : p.tables.exec = Jvm.exec) (hb : c.code = cc) (hK : va_K D cl tys s) (hP : va_P D cl ws H) (q0 t0 : Nat) {cA : ClassId} {ty : FieldType} {n : Nat} {f : Nat → Option Nat} (ha : ws[q0]? = some (a, .inl (cA, n, .inr (.inr (.inr (.inr f)))))) (ht : tys[t0]? = some (cA, ty)) (hty : ty.isReference = true) {i : Int32} (hin : vp_in i n) (hdg : decode cc pc = .ok (.aaload, 1))
    (kk : W p l e R s m args below meth c H locs cells slots Q (F0 m (pc + 1) ls (va_rf (f i.toNatClampNeg) :: rest))) : W p l e R s m args below meth c H locs cells slots Q (F0 m pc ls (.int i :: .ref a :: rest)) := by
  have hlt : i.toNatClampNeg < n := Nat.not_le.mp fun q => hin (Or.inr q)
  exact W.aald (v := va_rf (f i.toNatClampNeg)) (ty := ty) hexec hb (hP q0 _ ha) ((hK.2 t0 _ ht).1 n (fun j => va_rf (f j))) hty (fun q => by cases q) (by show ¬ (i < 0 ∨ (arrV _ _ _).slots.size ≤ _); rw [arrV_size]; exact hin) (by show (arrV _ _ _).slots[_]? = _; rw [arrV_read _ _ hlt]) rfl rfl hdg kk
theorem ai_gH_ok (hx : p.tables.exec = Jvm.exec) (hb : c.code = cc) {own : String} (hown : s.vm.findClass own = some m.cls) (hts : ∀ w ∈ ww_ok, w.before args s = true) (hEV : ai_AV s) {ini : Bool} (hini : ini = true → meth.name = "<init>") {oc : Nat} (hoc : ∀ q, classes[oc]? = some q → own = q.1)
    {ins : Instr} {a b : Nat} (hd : decode cc pc = .ok (ins, ai_len ins)) (hf : ai_hf own ins a b) {scr : List ai_V} (hSC : ai_SC scr bs A H0 s) (h : ai_gH ini oc scr ins a b S w = some (S', w', dc, ds))
    (hW : ai_RW D s A bs ad w H) (hV : va_S A H0 H locs) (hA : ∀ q, H0.size ≤ q → A q) (hS : ai_RS bs ad S st) (hcells : cells + dc ≤ R.cells) (hslots : slots + ds ≤ R.slots)
    (kk : ∀ (H1 : Heap) (locs1 : List Loc) (ad' : List Nat) (st' : List Value), (∃ t, ad' = ad ++ t) → ai_RW D s A bs ad' w' H1 → va_S A H0 H1 locs1 → ai_RS bs ad' S' st' → W p l e R s m args below meth c H1 locs1 (cells + dc) (slots + ds) Q (F0 m (pc + ai_len ins) ls st')) : W p l e R s m args below meth c H locs cells slots Q (F0 m pc ls st) := by
  unfold ai_gH at h
  split at h
  · next i =>
    split at h
    · next k r =>
      split at h
      · next ac hk =>
        obtain ⟨h1, h⟩ := ai_bif2 h
        split at h
        · next v hv =>
          cases h
          have ht := Nat.eq_of_beq_eq_true h1
          obtain ⟨C, T, N, hc, hbN, hlk⟩ := hf
          obtain ⟨ha7, ck⟩ := ai_ck hc
          match st, hS with
          | u :: st', ⟨hu, hS⟩ =>
            obtain ⟨ws, tys, hK, hP, hD, had, hlen, hR⟩ := id hW
            subst had
            obtain ⟨a', e', rfl, he, hre⟩ := ai_obj hu hR hk
            obtain ⟨fs, rfl, hfs⟩ := hre.obj (by omega)
            obtain ⟨x, hx1, hx2⟩ := hfs.get hv
            rw [ht] at he
            exact va_get hx hb hts ck.2.1 hown hK hP k he hc b hbN (hts _ hlk) (fun x9 h9 => by rw [ck.2.2.2.2.2.2.1 b hbN] at h9; exact h9) hx1 hd (kk H locs _ _ ⟨[], (List.append_nil _).symm⟩ hW hV ⟨hx2, hS⟩)
        · cases h
      · cases h
    · cases h
  · next i =>
    split at h
    · next v k r =>
      split at h
      · next ac hk =>
        obtain ⟨h1, h⟩ := ai_bif2 h
        split at h
        · next v0 hv0 =>
          cases h
          rw [Bool.and_eq_true, Bool.and_eq_true, Bool.or_eq_true, Bool.and_eq_true] at h1
          obtain ⟨h1, h2, h3⟩ := h1
          have ht := Nat.eq_of_beq_eq_true h1
          obtain ⟨C, T, N, hc, hbN, hlk⟩ := hf
          obtain ⟨ha7, ck⟩ := ai_ck hc
          match st, hS with
          | [_], hS => exact hS.2.elim
          | y :: u :: st', ⟨hy, hu, hS⟩ =>
            obtain ⟨hn, hfit⟩ := ai_okf_ok h2 hy
            obtain ⟨ws, tys, hK, hP, hD, had, hlen, hR⟩ := id hW
            subst had
            obtain ⟨a', e', rfl, he, hre⟩ := ai_obj hu hR hk
            obtain ⟨fs, rfl, hfs⟩ := hre.obj (by omega)
            obtain ⟨x, hx1, hx2⟩ := hfs.get hv0
            have hlt : b < fs.length := (List.getElem?_eq_some_iff.mp hx1).1
            have hac : ac = (a, ac.2) := by rw [← ht]
            rw [ht] at he
            have fin : ∀ (H1 : Heap) (locs1 : List Loc), va_P D classes (ws.set k (a', .inr (a, fs.set b y))) H1 → va_D A (ws.set k (a', .inr (a, fs.set b y))) → va_S A H0 H1 locs1 → W p l e R s m args below meth c H1 locs1 cells slots Q (F0 m (pc + 3) ls st') := fun H1 locs1 hP1 hD1 hS1 =>
              kk H1 locs1 _ _ ⟨[], (List.append_nil _).symm⟩ ⟨ws.set k (a', .inr (a, fs.set b y)), tys, hK, hP1, hD1, (ai_map_set he).symm, by rw [List.length_set, List.length_set]; exact hlen, ai_cell_set he hR (Or.inl ⟨by show ac.1 < 10; omega, fs.set b y, by rw [ht], hfs.set b hy⟩)⟩ hS1 hS
            cases hfin : ai_fin a b with
            | false => exact va_put hx hb hts ck.2.1 (ai_tt a) ck.2.2.1 ck.2.2.2.1 hown hK hP hD hV k he hc b hbN (hts _ hlk) (fun x9 h9 => by rw [ck.2.2.2.2.2.2.1 b hbN] at h9; exact h9) (by rw [ck.2.2.2.2.2.2.2.1]; exact hfin) (ck.2.2.1 b hbN) hn hfit hlt hd fin
            | true =>
              rcases h3 with h3 | ⟨h3, h4⟩
              · rw [hfin] at h3; cases h3
              · have h4 := Nat.eq_of_beq_eq_true h4
                subst h4
                have hoc' := hoc _ hc
                exact va_putF hx hb hts ck.2.1 (ai_tt a) ck.2.2.1 ck.2.2.2.1 hown hK hP hD hV k he hc b hbN (hts _ hlk) (fun x9 h9 => by rw [ck.2.2.2.2.2.2.1 b hbN] at h9; exact h9) (by rw [ck.2.2.2.2.2.2.2.1]; exact hfin) (hini h3) (by rw [ck.2.2.2.2.2.2.1 b hbN, hoc']) (ck.2.2.1 b hbN) hn hfit hlt hd fin
        · cases h
      · cases h
    · cases h
  · split at h
    · next q r =>
      split at h
      · next j hj =>
        split at h
        · next v hv =>
          cases h
          match st, hS with
          | [_], hS => exact hS.2.elim
          | _ :: _ :: st', ⟨⟨x, rfl, x1, x2⟩, rfl, hS⟩ =>
            obtain ⟨e1, e2, e3, -⟩ := ai_ix_ok hj x1 x2
            rcases hSC with rfl | ⟨xs, hX, hbl, hbA, hxs⟩
            · cases hv
            · refine va_sld hx hb hX hbl hbA hV (ai_in ⟨e2, e3⟩ (List.getElem?_eq_some_iff.mp hv).1) hd (kk H locs _ _ ⟨[], (List.append_nil _).symm⟩ hW hV ⟨?_, hS⟩)
              rw [e2]
              have := (hxs j v hv).mono ad
              rw [List.nil_append] at this
              exact this
        · cases h
      · cases h
    · next q k r =>
      split at h
      · next j hj =>
        split at h
        · next ac hk =>
          obtain ⟨h1, h⟩ := ai_bif2 h
          split at h
          · next v hv =>
            cases h
            have ht := Nat.eq_of_beq_eq_true h1
            match st, hS with
            | [_], hS => exact hS.2.elim
            | _ :: u :: st', ⟨⟨x, rfl, x1, x2⟩, hu, hS⟩ =>
              obtain ⟨e1, e2, e3, -⟩ := ai_ix_ok hj x1 x2
              obtain ⟨ws, tys, hK, hP, hD, had, hlen, hR⟩ := id hW
              subst had
              obtain ⟨a', e', rfl, he, hre⟩ := ai_obj hu hR hk
              obtain ⟨cA, f, t0, rfl, g1, g2⟩ := hre.ints (ty := .int) (by rw [ht]; rfl)
              exact va_iald hx hb hK hP k t0 he g1 (ai_in ⟨e2, e3⟩ (List.getElem?_eq_some_iff.mp hv).1) hd (kk H locs _ _ ⟨[], (List.append_nil _).symm⟩ hW hV ⟨by rw [e2]; exact g2 j v hv, hS⟩)
          · cases h
        · cases h
      · cases h
    · cases h
  · split at h
    · next q k r =>
      split at h
      · next j hj =>
        split at h
        · next ac hk =>
          obtain ⟨h1, h⟩ := ai_bif2 h
          split at h
          · next v hv =>
            cases h
            match st, hS with
            | [_], hS => exact hS.2.elim
            | _ :: u :: st', ⟨⟨x, rfl, x1, x2⟩, hu, hS⟩ =>
              obtain ⟨e1, e2, e3, -⟩ := ai_ix_ok hj x1 x2
              obtain ⟨ws, tys, hK, hP, hD, had, hlen, hR⟩ := id hW
              subst had
              obtain ⟨a', e', rfl, he, hre⟩ := ai_obj hu hR hk
              rw [Bool.or_eq_true] at h1
              rcases h1 with h1 | h1
              · have ht := Nat.eq_of_beq_eq_true h1
                obtain ⟨cA, f, t0, rfl, g1, g2⟩ := hre.ints (ty := .byte) (by rw [ht]; rfl)
                exact va_bald hx hb hK hP k t0 he g1 (ai_in ⟨e2, e3⟩ (List.getElem?_eq_some_iff.mp hv).1) hd (kk H locs _ _ ⟨[], (List.append_nil _).symm⟩ hW hV ⟨by rw [e2]; exact g2 j v hv, hS⟩)
              · have ht := Nat.eq_of_beq_eq_true h1
                obtain ⟨cA, f, t0, rfl, g1, g2⟩ := hre.ints (ty := .boolean) (by rw [ht]; rfl)
                exact va_zald hx hb hK hP k t0 he g1 (ai_in ⟨e2, e3⟩ (List.getElem?_eq_some_iff.mp hv).1) hd (kk H locs _ _ ⟨[], (List.append_nil _).symm⟩ hW hV ⟨by rw [e2]; exact g2 j v hv, hS⟩)
          · cases h
        · cases h
      · cases h
    · cases h
  · split at h
    · next q k r =>
      split at h
      · next j hj =>
        split at h
        · next ac hk =>
          obtain ⟨h1, h⟩ := ai_bif2 h
          split at h
          · next v hv =>
            cases h
            have ht := Nat.eq_of_beq_eq_true h1
            match st, hS with
            | [_], hS => exact hS.2.elim
            | _ :: u :: st', ⟨⟨x, rfl, x1, x2⟩, hu, hS⟩ =>
              obtain ⟨e1, e2, e3, -⟩ := ai_ix_ok hj x1 x2
              obtain ⟨ws, tys, hK, hP, hD, had, hlen, hR⟩ := id hW
              subst had
              obtain ⟨a', e', rfl, he, hre⟩ := ai_obj hu hR hk
              obtain ⟨cA, f, t0, rfl, g1, g2⟩ := hre.longs ht
              exact va_lald hx hb hK hP k t0 he g1 (ai_in ⟨e2, e3⟩ (List.getElem?_eq_some_iff.mp hv).1) hd (kk H locs _ _ ⟨[], (List.append_nil _).symm⟩ hW hV ⟨by rw [e2]; exact g2 j v hv, hS⟩)
          · cases h
        · cases h
      · cases h
    · cases h
  · split at h
    · next q k r =>
      split at h
      · next j hj =>
        split at h
        · next ac hk =>
          split at h
          · next rty hrt =>
            split at h
            · next v hv =>
              cases h
              match st, hS with
              | [_], hS => exact hS.2.elim
              | _ :: u :: st', ⟨⟨x, rfl, x1, x2⟩, hu, hS⟩ =>
                obtain ⟨e1, e2, e3, -⟩ := ai_ix_ok hj x1 x2
                obtain ⟨ws, tys, hK, hP, hD, had, hlen, hR⟩ := id hW
                subst had
                obtain ⟨a', e', rfl, he, hre⟩ := ai_obj hu hR hk
                obtain ⟨cA, f, t0, rfl, g1, g2⟩ := hre.refs hrt
                exact ai_aald hx hb hK hP k t0 he g1 (ai_rt_ge hrt).2.2 (ai_in ⟨e2, e3⟩ (List.getElem?_eq_some_iff.mp hv).1) hd (kk H locs _ _ ⟨[], (List.append_nil _).symm⟩ hW hV ⟨by rw [e2]; exact g2 j v hv, hS⟩)
            · cases h
          · cases h
        · cases h
      · cases h
    · cases h
  · split at h
    · next v q k r =>
      split at h
      · next j hj =>
        split at h
        · next ac hk =>
          obtain ⟨h1, h⟩ := ai_bif2 h
          split at h
          · next v0 hv =>
            cases h
            have ht := Nat.eq_of_beq_eq_true h1
            match st, hS with
            | [_], hS => exact hS.2.elim
            | [_, _], hS => exact hS.2.2.elim
            | _ :: _ :: u :: st', ⟨⟨y, rfl, y1, y2⟩, ⟨x, rfl, x1, x2⟩, hu, hS⟩ =>
              obtain ⟨e1, e2, e3, -⟩ := ai_ix_ok hj x1 x2
              obtain ⟨ws, tys, hK, hP, hD, had, hlen, hR⟩ := id hW
              subst had
              obtain ⟨a', e', rfl, he, hre⟩ := ai_obj hu hR hk
              obtain ⟨cA, f, t0, rfl, g1, g2⟩ := hre.ints (ty := .int) (by rw [ht]; rfl)
              refine va_iast hx hb hK hP hD hV k t0 he g1 (ai_in ⟨e2, e3⟩ (List.getElem?_eq_some_iff.mp hv).1) hd (fun H1 locs1 hP1 hD1 hS1 => ?_)
              rw [e2] at hP1 hD1
              exact kk H1 locs1 _ _ ⟨[], (List.append_nil _).symm⟩ ⟨_, tys, hK, hP1, hD1, (ai_map_set he).symm, by rw [List.length_set, List.length_set]; exact hlen, ai_cell_set he hR (Or.inr (Or.inl ⟨.int, cA, _, t0, by rw [ht]; rfl, by rw [List.length_set], g1, ai_upd g2 ⟨y, rfl, y1, y2⟩⟩))⟩ hS1 hS
          · cases h
        · cases h
      · cases h
    · cases h
  · split at h
    · next v q k r =>
      split at h
      · next j hj =>
        split at h
        · next ac hk =>
          obtain ⟨h1, h⟩ := ai_bif2 h
          split at h
          · next v0 hv =>
            cases h
            match st, hS with
            | [_], hS => exact hS.2.elim
            | [_, _], hS => exact hS.2.2.elim
            | _ :: _ :: u :: st', ⟨⟨y, rfl, y1, y2⟩, ⟨x, rfl, x1, x2⟩, hu, hS⟩ =>
              obtain ⟨e1, e2, e3, -⟩ := ai_ix_ok hj x1 x2
              obtain ⟨ws, tys, hK, hP, hD, had, hlen, hR⟩ := id hW
              subst had
              obtain ⟨a', e', rfl, he, hre⟩ := ai_obj hu hR hk
              rw [Bool.or_eq_true] at h1
              rcases h1 with h1 | h1
              · have ht := Nat.eq_of_beq_eq_true h1
                obtain ⟨cA, f, t0, rfl, g1, g2⟩ := hre.ints (ty := .byte) (by rw [ht]; rfl)
                refine va_bast hx hb hK hP hD hV k t0 he g1 (ai_in ⟨e2, e3⟩ (List.getElem?_eq_some_iff.mp hv).1) hd (fun H1 locs1 hP1 hD1 hS1 => ?_)
                rw [e2] at hP1 hD1
                exact kk H1 locs1 _ _ ⟨[], (List.append_nil _).symm⟩ ⟨_, tys, hK, hP1, hD1, (ai_map_set he).symm, by rw [List.length_set, List.length_set]; exact hlen, ai_cell_set he hR (Or.inr (Or.inl ⟨.byte, cA, _, t0, by rw [ht]; rfl, by rw [List.length_set], g1, ai_upd g2 ⟨_, rfl, ai_tI_ok _⟩⟩))⟩ hS1 hS
              · have ht := Nat.eq_of_beq_eq_true h1
                obtain ⟨cA, f, t0, rfl, g1, g2⟩ := hre.ints (ty := .boolean) (by rw [ht]; rfl)
                refine va_zast hx hb hK hP hD hV k t0 he g1 (ai_in ⟨e2, e3⟩ (List.getElem?_eq_some_iff.mp hv).1) hd (fun H1 locs1 hP1 hD1 hS1 => ?_)
                rw [e2] at hP1 hD1
                exact kk H1 locs1 _ _ ⟨[], (List.append_nil _).symm⟩ ⟨_, tys, hK, hP1, hD1, (ai_map_set he).symm, by rw [List.length_set, List.length_set]; exact hlen, ai_cell_set he hR (Or.inr (Or.inl ⟨.boolean, cA, _, t0, by rw [ht]; rfl, by rw [List.length_set], g1, ai_upd g2 ⟨_, rfl, ai_tI_ok _⟩⟩))⟩ hS1 hS
          · cases h
        · cases h
      · cases h
    · cases h
  · split at h
    · next v q k r =>
      split at h
      · next j hj =>
        split at h
        · next ac hk =>
          obtain ⟨h1, h⟩ := ai_bif2 h
          split at h
          · next v0 hv =>
            cases h
            have ht := Nat.eq_of_beq_eq_true h1
            match st, hS with
            | [_], hS => exact hS.2.elim
            | [_, _], hS => exact hS.2.2.elim
            | _ :: _ :: u :: st', ⟨⟨y, rfl, y1, y2⟩, ⟨x, rfl, x1, x2⟩, hu, hS⟩ =>
              obtain ⟨e1, e2, e3, -⟩ := ai_ix_ok hj x1 x2
              obtain ⟨ws, tys, hK, hP, hD, had, hlen, hR⟩ := id hW
              subst had
              obtain ⟨a', e', rfl, he, hre⟩ := ai_obj hu hR hk
              obtain ⟨cA, f, t0, rfl, g1, g2⟩ := hre.longs ht
              refine va_last hx hb hK hP hD hV k t0 he g1 (ai_in ⟨e2, e3⟩ (List.getElem?_eq_some_iff.mp hv).1) hd (fun H1 locs1 hP1 hD1 hS1 => ?_)
              rw [e2] at hP1 hD1
              exact kk H1 locs1 _ _ ⟨[], (List.append_nil _).symm⟩ ⟨_, tys, hK, hP1, hD1, (ai_map_set he).symm, by rw [List.length_set, List.length_set]; exact hlen, ai_cell_set he hR (Or.inr (Or.inr (Or.inl ⟨cA, _, t0, ht, by rw [List.length_set], g1, ai_updL g2 ⟨y, rfl, y1, y2⟩⟩)))⟩ hS1 hS
          · cases h
        · cases h
      · cases h
    · cases h
  · split at h
    · next kv q k r =>
      split at h
      · next j hj =>
        split at h
        · next ac hk =>
          split at h
          · next vc hkv =>
            obtain ⟨h1, h⟩ := ai_bif2 h
            split at h
            · next v0 hv =>
              cases h
              match st, hS with
              | [_], hS => exact hS.2.elim
              | [_, _], hS => exact hS.2.2.elim
              | y :: _ :: u :: st', ⟨hy, ⟨x, rfl, x1, x2⟩, hu, hS⟩ =>
                obtain ⟨e1, e2, e3, -⟩ := ai_ix_ok hj x1 x2
                obtain ⟨ws, tys, hK, hP, hD, had, hlen, hR⟩ := id hW
                subst had
                obtain ⟨a', e', rfl, he, hre⟩ := ai_obj hu hR hk
                have hy' := hy
                obtain ⟨ay, ey, rfl, hey, hrey⟩ := ai_obj hy hR hkv
                have key : ∀ (ci : Nat) (q9 : vw_C), classes[ci]? = some q9 → vc.1 = ci → ai_rt ac.1 = some (.object q9.1) → W p l e R s m args below meth c H locs cells slots Q (F0 m pc ls (.ref ay :: .int x :: .ref a' :: st')) := by
                  intro ci q9 hq9 hvc hrt
                  have hci := (ai_ck hq9).1
                  obtain ⟨fs, rfl, hfs⟩ := hrey.obj (by omega)
                  rw [hvc] at hey
                  obtain ⟨cA, f, t0, rfl, g1, g2⟩ := hre.refs hrt
                  refine va_astq hx hb hK hP hD hV k t0 kv ci he g1 hey hq9 (ai_in ⟨e2, e3⟩ (List.getElem?_eq_some_iff.mp hv).1) hd (fun H1 locs1 hP1 hD1 hS1 => ?_)
                  rw [e2] at hP1 hD1
                  exact kk H1 locs1 _ _ ⟨[], (List.append_nil _).symm⟩ ⟨_, tys, hK, hP1, hD1, (ai_map_set he).symm, by rw [List.length_set, List.length_set]; exact hlen, ai_cell_set he hR (Or.inr (Or.inr (Or.inr ⟨_, cA, _, t0, hrt, by rw [List.length_set], g1, ai_updR (y := some ay) g2 hy'⟩)))⟩ hS1 hS
                rw [Bool.or_eq_true, Bool.and_eq_true, Bool.and_eq_true] at h1
                rcases h1 with ⟨z1, z2⟩ | ⟨z1, z2⟩
                · exact key 1 _ rfl (Nat.eq_of_beq_eq_true z2) (by rw [Nat.eq_of_beq_eq_true z1]; rfl)
                · exact key 3 _ rfl (Nat.eq_of_beq_eq_true z2) (by rw [Nat.eq_of_beq_eq_true z1]; rfl)
            · cases h
          · cases h
        · cases h
      · cases h
    · cases h
  · split at h
    · next r =>
      obtain ⟨h1, h⟩ := ai_bif2 h
      cases h
      rw [Bool.and_eq_true] at h1
      have hlt : scr.length ≤ 100000 := by simpa [Nat.ble_eq] using h1.2
      match st, hS with
      | _ :: st', ⟨rfl, hS⟩ =>
        rcases hSC with rfl | ⟨xs, hX, hbl, hbA, hxs⟩
        · exact absurd h1.1 (by decide)
        · have e1 : (Int32.ofNat scr.length).toInt = (scr.length : Int) := Int32.toInt_ofNat_of_lt (by omega)
          exact va_slen hx hb hX hbl hbA hV hd (kk H locs _ _ ⟨[], (List.append_nil _).symm⟩ hW hV ⟨⟨_, rfl, by rw [e1]; exact Int.le_refl _, by rw [e1]; exact Int.le_refl _⟩, hS⟩)
    · next k r =>
      split at h
      · next ac hk =>
        obtain ⟨h1, h⟩ := ai_bif2 h
        cases h
        rw [Bool.and_eq_true, Nat.ble_eq, Nat.ble_eq] at h1
        match st, hS with
        | u :: st', ⟨hu, hS⟩ =>
          obtain ⟨ws, tys, hK, hP, hD, had, hlen, hR⟩ := id hW
          subst had
          obtain ⟨a', e', rfl, he, hre⟩ := ai_obj hu hR hk
          have e1 : (Int32.ofNat ac.2.length).toInt = (ac.2.length : Int) := Int32.toInt_ofNat_of_lt (by omega)
          have fin := kk H locs _ (.int (Int32.ofNat ac.2.length) :: st') ⟨[], (List.append_nil _).symm⟩ hW hV ⟨⟨_, rfl, by rw [e1]; exact Int.le_refl _, by rw [e1]; exact Int.le_refl _⟩, hS⟩
          rcases hre with ⟨h0, -⟩ | ⟨ty, cA, f, t0, h0, rfl, g1, -⟩ | ⟨cA, f, t0, h0, rfl, g1, -⟩ | ⟨ty, cA, f, t0, h0, rfl, g1, -⟩
          · omega
          · exact va_alen hx hb hK hP k t0 he g1 rfl hd fin
          · exact va_alen hx hb hK hP k t0 he g1 rfl hd fin
          · exact va_alen hx hb hK hP k t0 he g1 rfl hd fin
      · cases h
    · cases h
  · next ty =>
    split at h
    · next q r =>
      split at h
      · next n hn =>
        obtain ⟨h1, h⟩ := ai_bif2 h
        simp only [Option.some.injEq, Prod.mk.injEq] at h
        obtain ⟨rfl, rfl, rfl, rfl⟩ := h
        rw [Bool.and_eq_true, Nat.ble_eq] at h1
        match st, hS with
        | _ :: st', ⟨⟨x, rfl, x1, x2⟩, hS⟩ =>
          obtain ⟨e1, e2, e3, -⟩ := ai_ix_ok hn x1 x2
          obtain ⟨ws, tys, hK, hP, hD, had, hlen, hR⟩ := id hW
          subst had
          have fin : ∀ (fty : FieldType) (a0 : vp_A), (∀ (cA : ClassId) (q : Nat), ai_RE bs (ws.map Prod.fst ++ [q]) (tys ++ [(cA, fty)]) (ai_nt ty, List.replicate n (ai_zv (ai_nt ty))) (.inl (cA, a0))) → ∀ (q : Nat) (cA : ClassId) (H1 : Heap), va_K D classes (tys ++ [(cA, fty)]) s → va_P D classes (ws ++ [(q, .inl (cA, a0))]) H1 → va_D A (ws ++ [(q, .inl (cA, a0))]) → va_S A H0 H1 locs →
              W p l e R s m args below meth c H1 locs (cells + 1) (slots + n) Q (F0 m (pc + 2) ls (.ref q :: st')) := fun fty a0 hz q cA H1 hK1 hP1 hD1 hS1 =>
            kk H1 locs _ _ ⟨[q], rfl⟩ ⟨_, _, hK1, hP1, hD1, by rw [List.map_append]; rfl, by rw [List.length_append, List.length_append, hlen]; rfl, ai_one hlen rfl hR (hz cA q)⟩ hS1 ⟨by rw [ai_frc_eq]; exact ⟨q, by have := ai_last (q := q) (n := 0) (e := .inl (cA, a0)) hlen; rw [List.map_append] at this; exact this, rfl⟩, hS.mono _⟩
          have rp : ∀ (j : Nat) (v : ai_V), (List.replicate n (ai_zv (ai_nt ty)))[j]? = some v → v = ai_zv (ai_nt ty) := fun j v hj => List.eq_of_mem_replicate (List.mem_of_getElem? hj)
          have tl : ∀ (cA : ClassId) (fty : FieldType), (tys ++ [(cA, fty)])[tys.length]? = some (cA, fty) := fun cA fty => by rw [List.getElem?_append_right (Nat.le_refl _), Nat.sub_self]; rfl
          cases ty with
          | int => exact va_newa (atype := .int) hx hb (hts _ ac_int) rfl hK hP hD hV hA (a0 := (n, .inl (fun _ => 0))) (fun _ => rfl) e3 e2 (by show n * 4 ≤ _; omega) hcells hslots hd (fin .int _ (fun cA q => Or.inr (Or.inl ⟨.int, cA, _, tys.length, rfl, by rw [List.length_replicate], tl _ _, fun j v hj => by rw [rp j v hj]; exact ⟨0, rfl, by decide, by decide⟩⟩)))
          | long => exact va_newa (atype := .long) hx hb (hts _ ac_long) rfl hK hP hD hV hA (a0 := (n, .inr (.inl (fun _ => 0)))) (fun _ => rfl) e3 e2 (by show n * 8 ≤ _; omega) hcells hslots hd (fin .long _ (fun cA q => Or.inr (Or.inr (Or.inl ⟨cA, _, tys.length, rfl, by rw [List.length_replicate], tl _ _, fun j v hj => by rw [rp j v hj]; exact ⟨0, rfl, by decide, by decide⟩⟩))))
          | byte => exact va_newa (atype := .byte) hx hb (hts _ ac_byte) rfl hK hP hD hV hA (a0 := (n, .inl (fun _ => 0))) (fun _ => rfl) e3 e2 (by show n * 1 ≤ _; omega) hcells hslots hd (fin .byte _ (fun cA q => Or.inr (Or.inl ⟨.byte, cA, _, tys.length, rfl, by rw [List.length_replicate], tl _ _, fun j v hj => by rw [rp j v hj]; exact ⟨0, rfl, by decide, by decide⟩⟩)))
          | boolean => exact va_newa (atype := .boolean) hx hb (hts _ ac_bool) rfl hK hP hD hV hA (a0 := (n, .inl (fun _ => 0))) (fun _ => rfl) e3 e2 (by show n * 1 ≤ _; omega) hcells hslots hd (fin .boolean _ (fun cA q => Or.inr (Or.inl ⟨.boolean, cA, _, tys.length, rfl, by rw [List.length_replicate], tl _ _, fun j v hj => by rw [rp j v hj]; exact ⟨0, rfl, by decide, by decide⟩⟩)))
          | _ => exact absurd h1.1 (by decide)
      · cases h
    · cases h
  · next i =>
    split at h
    · next q r =>
      split at h
      · next n hn =>
        obtain ⟨h1, h⟩ := ai_bif2 h
        simp only [Option.some.injEq, Prod.mk.injEq] at h
        obtain ⟨rfl, rfl, rfl, rfl⟩ := h
        rw [Nat.ble_eq] at h1
        match st, hS with
        | _ :: st', ⟨⟨x, rfl, x1, x2⟩, hS⟩ =>
          obtain ⟨e1, e2, e3, -⟩ := ai_ix_ok hn x1 x2
          obtain ⟨ws, tys, hK, hP, hD, had, hlen, hR⟩ := id hW
          subst had
          have key : ∀ C : String, ai_rt a = some (.object C) → (Cond.classLink own i C).before args s = true → va_AO C s → W p l e R s m args below meth c H locs cells slots Q (F0 m pc ls (.int x :: st')) := fun C hrt hlk hao =>
            va_newq hx hb hown hlk hao hK hP hD hV hA e3 e2 (by omega) hcells hslots hd (fun q cA H1 hK1 hP1 hD1 hS1 =>
              kk H1 locs _ _ ⟨[q], rfl⟩ ⟨_, _, hK1, hP1, hD1, by rw [List.map_append]; rfl, by rw [List.length_append, List.length_append, hlen]; rfl, ai_one hlen rfl hR (Or.inr (Or.inr (Or.inr ⟨_, cA, _, tys.length, hrt, by rw [List.length_replicate], by rw [List.getElem?_append_right (Nat.le_refl _), Nat.sub_self]; rfl, fun j v hj => by rw [List.eq_of_mem_replicate (List.mem_of_getElem? hj)]; rfl⟩)))⟩ hS1 ⟨by rw [ai_frc_eq]; exact ⟨q, by have := ai_last (q := q) (n := 0) (e := .inl (cA, n, .inr (.inr (.inr (.inr (fun _ => none)))))) hlen; rw [List.map_append] at this; exact this, rfl⟩, hS.mono _⟩)
          rcases hf with ⟨rfl, hlk⟩ | ⟨rfl, hlk⟩
          · exact key RR_1 rfl (hts _ hlk) hEV.1
          · exact key RR_3 rfl (hts _ hlk) hEV.2.1
      · cases h
    · cases h
  · next i dm =>
    split at h
    · next q2 q r =>
      split at h
      · next k hk =>
        split at h
        · next n hn =>
          obtain ⟨h1, h⟩ := ai_bif2 h
          rw [ai_frc_eq] at h
          cases h
          rw [Bool.and_eq_true, Bool.and_eq_true, Nat.ble_eq, Nat.ble_eq] at h1
          match st, hS with
          | [_], hS => exact hS.2.elim
          | _ :: _ :: st', ⟨⟨y, rfl, y1, y2⟩, ⟨x, rfl, x1, x2⟩, hS⟩ =>
            obtain ⟨e1, e2, e3, -⟩ := ai_ix_ok hn x1 x2
            obtain ⟨f1, f2, f3, -⟩ := ai_ix_ok hk y1 y2
            obtain ⟨ws, tys, hK, hP, hD, had, hlen, hR⟩ := id hW
            subst had
            have hnk : n * k ≤ 10000 * 10000 := Nat.mul_le_mul h1.1 h1.2.1
            obtain ⟨rfl, hf⟩ := hf
            have hb3 : cells + (1 + n) = cells + 1 + n := by omega
            have hb4 : slots + (n + n * k) = slots + n + n * k := by omega
            have key : ∀ (ty : FieldType) (z : vp_A), ai_rt a = some (.array ty) → (Cond.classLink own i ("[" ++ (FieldType.array ty).toString)).before args s = true → (Cond.arrayOver (.array ty)).before args s = true → (Cond.arrayClass ty).before args s = true → (∀ cy : ClassId, s.vm.findClass (FieldType.array ty).toString = some cy → va_RA s cy ty) → k * componentBytes ty ≤ 536870912 → fits ty (defaultValue ty) = true → (defaultValue ty).isDefault = true → (∀ c : ClassId, Jvm.Free.Multi.innerC c k (defaultValue ty) = vp_cell c z) →
                (∀ (ad : List Nat) (tz : List (ClassId × FieldType)) (cy : ClassId) (t0 : Nat), tz[t0]? = some (cy, ty) → ai_RE bs ad tz (a - 6, List.replicate k (ai_zv (a - 6))) (.inl (cy, z))) →
                W p l e R s m args below meth c H locs cells slots Q (F0 m pc ls (.int y :: .int x :: st')) := by
              intro ty z hrt g1 g2 g3 g4 g5 g6 g7 g8 g9
              refine ai_mna hx hb hown g1 g2 g3 g4 hK hP hD hV hA e3 f3 e2 f2 (by omega) g5 (by omega) g6 g7 hcells hslots g8 hd (fun q cA cy H1 hK1 hP1 hD1 hS1 => ?_)
              rw [← hb3, ← hb4]
              have hmap : (ai_grid q n cA cy z).map Prod.fst = q :: (List.range n).map (fun i => q + 1 + i) := by
                unfold ai_grid
                rw [List.map_cons, List.map_map]
                rfl
              have hadr : ∀ j, j < n → (ws.map Prod.fst ++ (ai_grid q n cA cy z).map Prod.fst)[w.length + 1 + j]? = some (q + 1 + j) := fun j hj => by
                rw [hmap, List.getElem?_append_right (by rw [List.length_map]; omega), List.length_map, show w.length + 1 + j - ws.length = j + 1 by omega, List.getElem?_cons_succ, List.getElem?_map, List.getElem?_range hj]
                rfl
              refine kk H1 locs (ws.map Prod.fst ++ (ai_grid q n cA cy z).map Prod.fst) _ ⟨_, rfl⟩ ⟨_, _, hK1, hP1, hD1, by rw [List.map_append], ?_, ai_cell_push hlen rfl hR ?_⟩ hS1 ⟨⟨q, ?_, rfl⟩, hS.mono _⟩
              · unfold ai_grid
                simp [hlen]
              · intro j bc hj
                match j, hj with
                | 0, hj =>
                  cases hj
                  refine ⟨_, rfl, Or.inr (Or.inr (Or.inr ⟨_, cA, _, tys.length, hrt, by rw [List.length_map, List.length_range], by rw [List.getElem?_append_right (Nat.le_refl _), Nat.sub_self]; rfl, fun j v hj => ?_⟩))⟩
                  rw [List.getElem?_map] at hj
                  by_cases hjn : j < n
                  · rw [List.getElem?_range hjn] at hj
                    cases hj
                    rw [if_pos hjn]
                    show ai_RV _ _ (.inl (some (w.length + 3 + j))) _
                    rw [show w.length + 3 + j = (w.length + 1 + j) + 2 by omega]
                    exact ⟨_, hadr j hjn, rfl⟩
                  · rw [List.getElem?_eq_none (by rw [List.length_range]; omega)] at hj
                    cases hj
                | j + 1, hj =>
                  rw [List.getElem?_cons_succ] at hj
                  have hbc := List.eq_of_mem_replicate (List.mem_of_getElem? hj)
                  have hjn : j < n := by
                    have := (List.getElem?_eq_some_iff.mp hj).1
                    rw [List.length_replicate] at this
                    exact this
                  refine ⟨(q + 1 + j, .inl (cy, z)), ?_, ?_⟩
                  · unfold ai_grid
                    rw [List.getElem?_cons_succ, List.getElem?_map, List.getElem?_range hjn]
                    rfl
                  · rw [hbc]
                    exact g9 _ _ cy (tys.length + 1) (by rw [List.getElem?_append_right (by omega), show tys.length + 1 - tys.length = 1 by omega]; rfl)
              · rw [hmap, List.getElem?_append_right (by rw [List.length_map]; omega), List.length_map, hlen, Nat.sub_self]
                rfl
            rcases hf with ⟨rfl, hlk⟩ | ⟨rfl, hlk⟩
            · exact key .int (k, .inl (fun _ => 0)) rfl (hts _ hlk) hEV.2.2.1 (hts _ ac_int) (fun _ h => h) (by show k * 4 ≤ _; omega) rfl rfl (fun c9 => by rw [vp_cell_i]; exact arrV_new _ _ _) (fun ad tz cy t0 ht0 => Or.inr (Or.inl ⟨.int, cy, _, t0, rfl, by rw [List.length_replicate], ht0, fun j v hj => by rw [List.eq_of_mem_replicate (List.mem_of_getElem? hj)]; exact ⟨0, rfl, by decide, by decide⟩⟩))
            · exact key .long (k, .inr (.inl (fun _ => 0))) rfl (hts _ hlk) hEV.2.2.2 (hts _ ac_long) (fun _ h => h) (by show k * 8 ≤ _; omega) rfl rfl (fun c9 => by rw [vp_cell_l]; exact arrV_new _ _ _) (fun ad tz cy t0 ht0 => Or.inr (Or.inr (Or.inl ⟨cy, _, t0, rfl, by rw [List.length_replicate], ht0, fun j v hj => by rw [List.eq_of_mem_replicate (List.mem_of_getElem? hj)]; exact ⟨0, rfl, by decide, by decide⟩⟩)))
        · cases h
      · cases h
    · cases h
  · next i =>
    cases h
    obtain ⟨C, T, N, hc, hlk⟩ := hf
    obtain ⟨ha7, ck⟩ := ai_ck hc
    obtain ⟨hN, ck1, ck2, ck3, ck4, ck5, ck6, ck7, ck8⟩ := ck
    dsimp only at hN
    rw [← hN] at hslots kk
    obtain ⟨ws, tys, hK, hP, hD, had, hlen, hR⟩ := id hW
    subst had
    refine va_new (ci := a) (fs := (List.range N).map (fun k => defaultValue (ai_tt a k))) hx hb hts ck1 (ai_tt a) ck2 hown (hts _ hlk) (hts _ ck4) (hts _ ck5) hK hP hD hV hA hc (fun j hj => ?_) hcells hslots hd (fun q H1 hP1 hD1 hS1 => ?_)
    · unfold vp_V
      rw [List.getD_eq_getElem?_getD, List.getElem?_map, List.getElem?_range hj]
      rfl
    · refine kk H1 locs _ _ ⟨[q], rfl⟩ ⟨_, tys ++ [], by rw [List.append_nil]; exact hK, hP1, hD1, by rw [List.map_append]; rfl, by rw [List.length_append, List.length_append, hlen]; rfl, ai_one hlen rfl hR (Or.inl ⟨by show a < 10; omega, _, rfl, ?_⟩)⟩ hS1 ⟨by rw [ai_frc_eq]; exact ⟨q, by have := ai_last (q := q) (n := 0) (e := .inr (a, (List.range N).map (fun k => defaultValue (ai_tt a k)))) hlen; rw [List.map_append] at this; exact this, rfl⟩, hS.mono _⟩
      exact ai_dvs _ (fun k hk => ck8 k (List.mem_range.mp hk))
  · cases h
end AIH2
