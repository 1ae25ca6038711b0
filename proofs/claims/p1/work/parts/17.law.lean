/-! THE CLAIM OUT OF ONE WALK OF THE LAW'S BODY. Your part is whole_start (and what it stands on); all else here is the same for every law, but numbers. -/
def R_law : String := "TheOtherRoomLaw"
def lw_P (b : Addr) (xs : List Int32) (args : Array Value) (s : State) : Prop := args = #[.ref b] ∧ s.IntsAt b xs ∧ xs.length ≤ 6 ∧ (Jvm.Cond.and given_1 narrow_1).before args s = true
def lw_Q (_ : Array Value) (s : State) (o : Outcome) (t : State) : Prop := o = .returned (some (.int 1)) ∧ Framed s o t [] 600000 7302250
def lw_Z (below : List Frame) (a : Array Value) (s : State) : State → Prop := fun t => ∃ o, t.status = .running ∧ Ended t below o ∧ lw_Q a s o t
/-- the law's own end, with 1 on the stack, nothing written that was there before, its room as the claim has it -/
theorem lw_ret {p : Program} {l : Launch} {e : Env} {s : State} {m : MethodId} {below : List Frame} {meth : Method} {c : Code} {b : Nat} (hx : p.tables.exec = Jvm.exec) (hb : c.code = code) (hr : meth.sig.returnType = ret) (hlocks : meth.locks = false) {pc : Nat} {H : Heap} {ls : Array Slot} (hdg : decode code pc = .ok (.ireturn, 1)) : W p l e room_1 s m #[Value.ref b] below meth c H [] 600000 7302250 (lw_Z below #[Value.ref b] s) (F0 m pc ls [.int 1]) := by
  intro T hT X
  obtain ⟨fs, hret, hrun, hended, hW, hframe⟩ := X.leave (v := some (.int 1)) (hlocks := hlocks) (fun h => by rw [hr] at h; cases h)
  have hmeth' : T.vm.method? m = some meth := X.method'
  refine ⟨T.setFrames fs, ?_, .returned (some (.int 1)), hrun, hended, rfl, ⟨_, rfl⟩, hW, hframe⟩
  jvm_step X.here [X.here.top, hx, hb, hdg, hmeth', hr, ret, narrow_b1]
  (try refine ⟨rfl, ?_⟩); (try refine ⟨rfl, ?_⟩)
  first | (intro acts; rw [hret _ acts rfl rfl rfl]) | rw [hret _ _ rfl rfl rfl]
  exact Steps.refl _
/-- what holds at the law's entry: the machine, the code, the tables' words (any of lw_tbl by 'hts w (by decide +kernel)'), the script of L ints xs at the cell b, what the Statement gives of the start (any of its parts by flat_of_before) -/
def lw_At (p : Program) (s : State) (m : MethodId) (meth : Method) (c : Code) (b L : Nat) (xs : Nat → Int32) : Prop :=
  p.tables.exec = Jvm.exec ∧ c.code = code ∧ meth.sig.returnType = ret ∧ c.maxLocals = 4 ∧ s.vm.findClass R_law = some m.cls ∧ (∀ w ∈ lw_tbl, w.before #[Value.ref b] s = true) ∧ va_X b L xs s s.heap ∧ b < s.heap.size ∧ meth.locks = false ∧ (Jvm.Cond.and given_1 narrow_1).before #[Value.ref b] s = true
/-! ===== the law, from its entry ===== -/
theorem sw_of {own tx : String} {k : Nat} {A : Array Value} {s : State} (h1 : (Cond.stringRef own k tx).before A s = true) (h2 : (Cond.exactly (.string own k) "java/lang/String").before A s = true) : ∃ a : Nat, vk_R own k tx a s := by
  obtain ⟨a, c, cell, kA, q1, -⟩ := Cond.exactly_spec (args := A) (first := s) (o := none) (s := s) (idx := []) h2
  exact ⟨a, vk_R.of h1 q1⟩
def sx_of : List Cond := ai_sw.map (fun q => Cond.exactly (.string q.1 q.2.1) "java/lang/String")
theorem sx_in : ∀ c ∈ sx_of, c ∈ flatC (Jvm.Cond.and given_1 narrow_1) := by
  have h : sx_of.all (fun c => decide (c ∈ flatC (Jvm.Cond.and given_1 narrow_1))) = true := by decide +kernel
  intro c hc
  exact of_decide_eq_true (List.all_eq_true.mp h c hc)
theorem ai_EN_of {b : Nat} {s : State} (hts : ∀ w ∈ lw_tbl, w.before #[Value.ref b] s = true) (hgv : (Jvm.Cond.and given_1 narrow_1).before #[Value.ref b] s = true) : ai_EN s := by
  have hs := flat_of_before _ hgv
  refine ⟨⟨va_AO.of (hts _ (lw_t 27 (by decide +kernel))), va_AO.of (hts _ (lw_t 29 (by decide +kernel))), ?_, ?_⟩, fun q hq => va_Nw.of rfl (hts _ (ai_nw_in q hq)), fun q hq => sw_of (hts _ (ai_sw_in q hq)) (hs _ (sx_in _ (List.mem_map.mpr ⟨q, hq, rfl⟩)))⟩
  · have h := hts (.arrayOver (.array .int)) (lw_t 187 (by decide +kernel))
    exact h
  · have h := hts (.arrayOver (.array .long)) (lw_t 1006 (by decide +kernel))
    exact h
theorem ai_kn {C : String} {T : u_T} {N : Nat} {b : Nat} {s : State} (hts : ∀ w ∈ ww_ok, w.before #[Value.ref b] s = true) (h1 : ∀ w ∈ u_ws C T N, w ∈ ww_ok) (h2 : Cond.instantiable C N ∈ ww_ok) : ∃ (cC : ClassId) (iS : Nat → Nat), u_Kn s C T N cC iS := u_known hts h1 (hts _ h2)
theorem ai_K0 {b : Nat} {s : State} (hts : ∀ w ∈ ww_ok, w.before #[Value.ref b] s = true) : ∃ D : va_G, va_K D classes [] s := by
  obtain ⟨c0, i0, h0⟩ := ai_kn hts ii_0 in_0
  obtain ⟨c1, i1, h1⟩ := ai_kn hts ii_1 in_1
  obtain ⟨c2, i2, h2⟩ := ai_kn hts ii_2 in_2
  obtain ⟨c3, i3, h3⟩ := ai_kn hts ii_3 in_3
  obtain ⟨c4, i4, h4⟩ := ai_kn hts ii_4 in_4
  obtain ⟨c5, i5, h5⟩ := ai_kn hts ii_5 in_5
  obtain ⟨c6, i6, h6⟩ := ai_kn hts ii_6 in_6
  refine ⟨(fun k => match k with
    | 0 => c0
    | 1 => c1
    | 2 => c2
    | 3 => c3
    | 4 => c4
    | 5 => c5
    | _ => c6, fun k => match k with
    | 0 => i0
    | 1 => i1
    | 2 => i2
    | 3 => i3
    | 4 => i4
    | 5 => i5
    | _ => i6), fun k q hq => ?_, fun k q h => by simp at h⟩
  match k, hq with
  | 0, hq => cases hq; exact h0
  | 1, hq => cases hq; exact h1
  | 2, hq => cases hq; exact h2
  | 3, hq => cases hq; exact h3
  | 4, hq => cases hq; exact h4
  | 5, hq => cases hq; exact h5
  | 6, hq => cases hq; exact h6
  | k + 7, hq => exact absurd (List.getElem?_eq_some_iff.mp hq).1 (by show ¬ k + 7 < 7; omega)
/-- the law's own end -/
theorem ai_end {p : Program} {l : Launch} {e : Env} {s : State} {m : MethodId} {below : List Frame} {meth : Method} {c : Code} {b : Nat} (hx : p.tables.exec = Jvm.exec) (hb : c.code = code) (hr : meth.sig.returnType = ret) (hlocks : meth.locks = false) {q : Int × Int} {C Z : Nat} (hq1 : 1 ≤ q.1) (hq2 : q.2 ≤ 1) (hC : C ≤ 600000) (hZ : Z ≤ 7302250) {ad : List Nat}
    {pc' : Nat} {ls' : Array Slot} {st' : List Value} {H1 : Heap} {locs1 : List Loc} {ins : Instr} {S' : List ai_V} (hV : va_S (fun q : Nat => s.heap.size ≤ q) s.heap H1 locs1) (hd : decode code pc' = .ok (ins, 1)) (hrc : ai_rc (some .boolean) ins S' = some (some (.inr (.inl q)))) (hS : ai_RS b ad S' st') :
    W p l e room_1 s m #[Value.ref b] below meth c H1 locs1 C Z (lw_Z below #[Value.ref b] s) (F0 m pc' ls' st') := by
  unfold ai_rc at hrc
  split at hrc
  · split at hrc
    · cases hrc
    · cases hrc
  · split at hrc
    · next q0 =>
      obtain ⟨h1, h2⟩ := ai_bif hrc
      cases h2
      match st', hS with
      | [u], ⟨hu, _⟩ =>
        obtain ⟨x, rfl, x1, x2⟩ := hu
        have hx1 : x = 1 := Int32.toInt_inj.mp (by show x.toInt = 1; omega)
        subst hx1
        refine va_forget (fun q hq => hV.2.2 q hq) ?_
        refine W.widen (k := 600000) (n := 7302250) hC hZ ?_
        exact lw_ret hx hb hr hlocks hd
      | _ :: _ :: _, hS => exact hS.2.elim
    · cases hrc
  · split at hrc
    · cases hrc
    · cases hrc
  · split at hrc
    · cases hrc
    · cases hrc
  · cases hrc
theorem ai_bx_RS {b : Nat} {ad : List Nat} : ∀ {bx : List (Int × Int)} {xs : List Int32} {j : Nat} {x : ai_V}, ai_bx bx xs → (bx.map (fun q => (.inr (.inl q) : ai_V)))[j]? = some x → ∃ y, xs[j]? = some y ∧ ai_RV b ad x (.int y)
  | [], [], j, x, _, h => by simp at h
  | q :: r, y :: xs, 0, x, h, hj => by
    rw [List.map_cons, List.getElem?_cons_zero] at hj
    cases hj
    exact ⟨y, rfl, y, rfl, h.1⟩
  | q :: r, y :: xs, j + 1, x, h, hj => by
    rw [List.map_cons, List.getElem?_cons_succ] at hj
    obtain ⟨z, h1, h2⟩ := ai_bx_RS h.2 hj
    exact ⟨z, by rw [List.getElem?_cons_succ]; exact h1, h2⟩
  | [], _ :: _, _, _, h, _ => h.elim
  | _ :: _, [], _, _, h, _ => h.elim
theorem ai_bx_len : ∀ {bx : List (Int × Int)} {xs : List Int32}, ai_bx bx xs → bx.length = xs.length
  | [], [], _ => rfl
  | _ :: _, _ :: _, h => congrArg (· + 1) (ai_bx_len h.2)
  | [], _ :: _, h => h.elim
  | _ :: _, [], h => h.elim
theorem rn_all : ∀ k : Nat, k < 64 → ∃ t : ai_T 5, ai_tr 5 t (ai_lw 1500 12 M_146 L_0 w_0 260 28440 33 ai_mt (k : Int)) = true := by
  intro k hk
  match k, hk with
  | 0, _ => exact ⟨_, rn_0⟩
  | 1, _ => exact ⟨_, rn_1⟩
  | 2, _ => exact ⟨_, rn_2⟩
  | 3, _ => exact ⟨_, rn_3⟩
  | 4, _ => exact ⟨_, rn_4⟩
  | 5, _ => exact ⟨_, rn_5⟩
  | 6, _ => exact ⟨_, rn_6⟩
  | 7, _ => exact ⟨_, rn_7⟩
  | 8, _ => exact ⟨_, rn_8⟩
  | 9, _ => exact ⟨_, rn_9⟩
  | 10, _ => exact ⟨_, rn_10⟩
  | 11, _ => exact ⟨_, rn_11⟩
  | 12, _ => exact ⟨_, rn_12⟩
  | 13, _ => exact ⟨_, rn_13⟩
  | 14, _ => exact ⟨_, rn_14⟩
  | 15, _ => exact ⟨_, rn_15⟩
  | 16, _ => exact ⟨_, rn_16⟩
  | 17, _ => exact ⟨_, rn_17⟩
  | 18, _ => exact ⟨_, rn_18⟩
  | 19, _ => exact ⟨_, rn_19⟩
  | 20, _ => exact ⟨_, rn_20⟩
  | 21, _ => exact ⟨_, rn_21⟩
  | 22, _ => exact ⟨_, rn_22⟩
  | 23, _ => exact ⟨_, rn_23⟩
  | 24, _ => exact ⟨_, rn_24⟩
  | 25, _ => exact ⟨_, rn_25⟩
  | 26, _ => exact ⟨_, rn_26⟩
  | 27, _ => exact ⟨_, rn_27⟩
  | 28, _ => exact ⟨_, rn_28⟩
  | 29, _ => exact ⟨_, rn_29⟩
  | 30, _ => exact ⟨_, rn_30⟩
  | 31, _ => exact ⟨_, rn_31⟩
  | 32, _ => exact ⟨_, rn_32⟩
  | 33, _ => exact ⟨_, rn_33⟩
  | 34, _ => exact ⟨_, rn_34⟩
  | 35, _ => exact ⟨_, rn_35⟩
  | 36, _ => exact ⟨_, rn_36⟩
  | 37, _ => exact ⟨_, rn_37⟩
  | 38, _ => exact ⟨_, rn_38⟩
  | 39, _ => exact ⟨_, rn_39⟩
  | 40, _ => exact ⟨_, rn_40⟩
  | 41, _ => exact ⟨_, rn_41⟩
  | 42, _ => exact ⟨_, rn_42⟩
  | 43, _ => exact ⟨_, rn_43⟩
  | 44, _ => exact ⟨_, rn_44⟩
  | 45, _ => exact ⟨_, rn_45⟩
  | 46, _ => exact ⟨_, rn_46⟩
  | 47, _ => exact ⟨_, rn_47⟩
  | 48, _ => exact ⟨_, rn_48⟩
  | 49, _ => exact ⟨_, rn_49⟩
  | 50, _ => exact ⟨_, rn_50⟩
  | 51, _ => exact ⟨_, rn_51⟩
  | 52, _ => exact ⟨_, rn_52⟩
  | 53, _ => exact ⟨_, rn_53⟩
  | 54, _ => exact ⟨_, rn_54⟩
  | 55, _ => exact ⟨_, rn_55⟩
  | 56, _ => exact ⟨_, rn_56⟩
  | 57, _ => exact ⟨_, rn_57⟩
  | 58, _ => exact ⟨_, rn_58⟩
  | 59, _ => exact ⟨_, rn_59⟩
  | 60, _ => exact ⟨_, rn_60⟩
  | 61, _ => exact ⟨_, rn_61⟩
  | 62, _ => exact ⟨_, rn_62⟩
  | 63, _ => exact ⟨_, rn_63⟩
  | k + 64, hk => exact absurd hk (by omega)
theorem ai_63 (x : Int32) : ∃ k : Nat, k < 64 ∧ (x &&& 63).toInt = (k : Int) := by
  have h1 : (x &&& 63).toInt = (x &&& 63).toBitVec.toInt := rfl
  have h2 : (x &&& 63).toBitVec = x.toBitVec &&& 63#32 := rfl
  have h3 : (x.toBitVec &&& 63#32).toNat < 64 := by
    rw [BitVec.toNat_and]
    exact Nat.lt_of_le_of_lt Nat.and_le_right (by decide)
  refine ⟨(x.toBitVec &&& 63#32).toNat, h3, ?_⟩
  rw [h1, h2]
  exact BitVec.toInt_eq_toNat_of_lt (by omega)
/-- a run from a place in the law on -/
theorem ai_rest {p : Program} {l : Launch} {e : Env} {s : State} {m : MethodId} {below : List Frame} {meth : Method} {c : Code} {b : Nat} (hx : p.tables.exec = Jvm.exec) (hb : c.code = code) (hr : meth.sig.returnType = ret) (hlocks : meth.locks = false) {scr : List ai_V} {S : List ai_V} {pc C Z : Nat} {q : Int × Int} {w' : ai_W} (hm : ai_ex ai_mt 1500 scr 12 M_146 (ai_jm (ai_cd M_146) pc) pc L_0 S w_0 260 28440 = some (some (.inr (.inl q)), w', C, Z)) (hq : ((ai_le q.2 1 && ai_le 1 q.1) && (Nat.ble C 600000 && Nat.ble Z 7302250)) = true)
    {H : Heap} {locs : List Loc} {D : va_G} {ad : List Nat} {ls : Array Slot} {st : List Value} (hF : ∀ C Z : Nat, C ≤ 600000 → Z ≤ 7302250 → ai_FX p room_1 s m #[Value.ref b] meth c M_146 12 C Z (fun q : Nat => s.heap.size ≤ q) s.heap b scr)
    (hW : ai_RW D s (fun q : Nat => s.heap.size ≤ q) b ad w_0 H) (hV : va_S (fun q : Nat => s.heap.size ≤ q) s.heap H locs) (hL : ai_RL b ad 4 L_0 ls) (hS : ai_RS b ad S st) : W p l e room_1 s m #[Value.ref b] below meth c H locs 260 28440 (lw_Z below #[Value.ref b] s) (F0 m pc ls st) := by
  rw [Bool.and_eq_true, Bool.and_eq_true, Bool.and_eq_true, ai_le_iff, ai_le_iff, Nat.ble_eq, Nat.ble_eq] at hq
  have h := ai_ex_ok l ai_mt ai_mt_ok _ _ _ _ _ _ _ _ _ _ _ _ _ _ _ hm (fun x hx => ai_jm_sub hx) ea_146
  exact h.2.2 p e room_1 s m _ below meth c H locs _ D _ s.heap b ad ls st (hF C Z hq.2.1 hq.2.2) hW hV hL hS (fun pc' ls' st' H1 locs1 ad' ins S' hpre hW1 hV1 hd hrc hRS => ai_end hx hb hr hlocks hq.1.2 hq.1.1 hq.2.1 hq.2.2 hV1 hd hrc hRS)
set_option maxHeartbeats 1000000 in
theorem whole_start {p : Program} {e : Env} {s : State} {m : MethodId} {below : List Frame} {meth : Method} {c : Code} (l : Launch) (hflags : l.flags = flags0) {b L : Nat} {xs : Nat → Int32} (hL : L ≤ 6) (C0 : lw_At p s m meth c b L xs) : W p l e room_1 s m #[Value.ref b] below meth c s.heap [] 0 0 (lw_Z below #[Value.ref b] s) (entryFrame m ([Value.ref b] : List Value).toArray 4) := by
  obtain ⟨hx, hb, hr, hml, hown, hts, hX, hbl, hlocks, hgv⟩ := id C0
  have htw : ∀ w ∈ ww_ok, w.before #[Value.ref b] s = true := fun w h => hts w (ww_in h)
  have hEN := ai_EN_of hts hgv
  obtain ⟨D, hK⟩ := ai_K0 htw
  have hA : ∀ q : Nat, s.heap.size ≤ q → (fun q : Nat => s.heap.size ≤ q) q := fun _ h => h
  have hbA : ¬ (fun q : Nat => s.heap.size ≤ q) b := Nat.not_le.mpr hbl
  have hFX : ∀ (scr : List ai_V), ai_SC scr b (fun q : Nat => s.heap.size ≤ q) s.heap s → ∀ C Z : Nat, C ≤ 600000 → Z ≤ 7302250 → ai_FX p room_1 s m #[Value.ref b] meth c M_146 12 C Z (fun q : Nat => s.heap.size ≤ q) s.heap b scr := fun scr hsc C Z hC hZ =>
    ⟨hx, hb, hml, hown, htw, hEN, fun h => (by cases h), hsc, by decide, by decide, hC, hZ, hA⟩
  have hl := lv_entry ([.ref b]) (n := 4) (Nat.le_of_ble_eq_true rfl)
  rw [lg_entry_eq]
  have hA1 := ai_sg_ok l ai_mt ai_mt_ok 1500 [] 12 M_146 C_A 0 _ _ _ 0 0 _ _ _ _ _ 18 sg_A (by decide +kernel) ek_A
  refine hA1.2.2 p e room_1 s m _ below meth c s.heap [] _ D _ s.heap b [] _ [] (hFX [] (Or.inl rfl) _ _ (by decide) (by decide)) ⟨[], [], hK, fun k q h => by simp at h, ⟨fun i j p q h => by simp at h, fun k q h => by simp at h⟩, rfl, rfl, fun k ac h => by simp at h⟩ va_S.rf ⟨_, hl, fun q hq => ?_⟩ trivial ?_
  · rw [List.mem_singleton] at hq
    subst hq
    exact ⟨_, List.mem_cons_self, rfl⟩
  intro H1 locs1 ad1 ls1 st1 hpre1 hW1 hV1 hL1 hS1
  match st1, hS1 with
  | _ :: _, hS1 => exact hS1.elim
  | [], hS1 =>
  by_cases h6 : L = 6
  · subst h6
    have hsc : ∀ scr : List ai_V, scr.length = 6 → (∀ (j : Nat) (x : ai_V), scr[j]? = some x → ai_RV b [] x (.int (xs j))) → ai_SC scr b (fun q : Nat => s.heap.size ≤ q) s.heap s := fun scr h1 h2 => Or.inr ⟨xs, by rw [h1]; exact hX, hbl, hbA, h2⟩
    have hB1 := ai_sg_ok l ai_mt ai_mt_ok 1500 (List.replicate 6 (.inr (.inl ai_tI))) 12 M_146 C_B 18 _ _ _ _ _ _ _ _ _ _ 32 sg_B (by decide +kernel) ek_B
    refine hB1.2.2 p e room_1 s m _ below meth c H1 locs1 _ D _ s.heap b ad1 ls1 [] (hFX _ (hsc _ List.length_replicate (fun j x hj => by rw [List.eq_of_mem_replicate (List.mem_of_getElem? hj)]; exact ⟨_, rfl, ai_tI_ok _⟩)) _ _ (by decide) (by decide)) hW1 hV1 hL1 hS1 ?_
    intro H2 locs2 ad2 ls2 st2 hpre2 hW2 hV2 hL2 hS2
    match st2, hS2 with
    | [_], hS2 => exact hS2.2.elim
    | _ :: _ :: _ :: _, hS2 => exact hS2.2.2.elim
    | [_, _], ⟨⟨y, rfl, y1, y2⟩, ⟨x, rfl, x1, x2⟩, _⟩ =>
      have hy : y = 63 := Int32.toInt_inj.mp (by show y.toInt = 63; have y1 : (63 : Int) ≤ y.toInt := y1; have y2 : y.toInt ≤ (63 : Int) := y2; omega)
      subst hy
      refine lv_iand hx hb (show decode code 32 = .ok (.iand, 1) by decide +kernel) ?_
      obtain ⟨k, hk, hxk⟩ := ai_63 x
      obtain ⟨t, ht⟩ := rn_all k hk
      obtain ⟨bx, hbx, hrun⟩ := ai_tr_ok 5 t _ ht [xs 1, xs 2, xs 3, xs 4, xs 5] rfl
      unfold ai_lw at hrun
      split at hrun
      · next q w' C Z hm =>
        refine ai_rest hx hb hr hlocks hm hrun (hFX _ (hsc _ ?_ ?_)) hW2 hV2 hL2 ⟨⟨_, rfl, by rw [hxk]; exact Int.le_refl _, by rw [hxk]; exact Int.le_refl _⟩, trivial⟩
        · have := ai_bx_len hbx
          simp only [List.length_cons, List.length_map, List.length_nil] at this ⊢
          omega
        · intro j z hj
          match j, hj with
          | 0, hj => cases hj; exact ⟨_, rfl, ai_tI_ok _⟩
          | j + 1, hj =>
            rw [List.getElem?_cons_succ] at hj
            obtain ⟨v, h1, h2⟩ := ai_bx_RS (b := b) (ad := []) hbx hj
            match j, h1 with
            | 0, h1 => cases h1; exact h2
            | 1, h1 => cases h1; exact h2
            | 2, h1 => cases h1; exact h2
            | 3, h1 => cases h1; exact h2
            | 4, h1 => cases h1; exact h2
            | j + 5, h1 => simp at h1
      · cases hrun
  · by_cases h0 : L = 0
    · subst h0
      obtain ⟨v3, h3, x3, rfl, y1, y2⟩ := hL1.at (i := 3) (x := .inr (.inl (0, 0))) rfl
      obtain ⟨v0, h0, rfl⟩ := hL1.at (i := 0) (x := .inl (some 0)) rfl
      have hx3 : x3 = 0 := Int32.toInt_inj.mp (by show x3.toInt = 0; have y1 : (0 : Int) ≤ x3.toInt := y1; have y2 : x3.toInt ≤ (0 : Int) := y2; omega)
      subst hx3
      refine lv_iload_n hx hb (show decode code 18 = .ok (.iload_n 3, 1) by decide +kernel) rfl h3 ?_
      refine lv_aload_n hx hb (show decode code 19 = .ok (.aload_n 0, 1) by decide +kernel) rfl h0 ?_
      refine va_slen hx hb hX hbl hbA hV1 (show decode code 20 = .ok (.arraylength, 1) by decide +kernel) ?_
      have hrun := rs_1
      split at hrun
      · next q w' C Z hm =>
        exact ai_rest hx hb hr hlocks hm hrun (hFX _ (Or.inl rfl)) hW1 hV1 hL1 ⟨⟨_, rfl, by decide, by decide⟩, ⟨_, rfl, by decide, by decide⟩, trivial⟩
      · cases hrun
    · obtain ⟨n, rfl⟩ : ∃ n, L = n + 1 := ⟨L - 1, by omega⟩
      have hlt : n < 5 := by omega
      have hrun := rs_0 n hlt
      split at hrun
      · next q w' C Z hm =>
        exact ai_rest hx hb hr hlocks hm hrun (hFX _ (Or.inr ⟨xs, by rw [List.length_replicate]; exact hX, hbl, hbA, fun j x hj => by rw [List.eq_of_mem_replicate (List.mem_of_getElem? hj)]; exact ⟨_, rfl, ai_tI_ok _⟩⟩)) hW1 hV1 hL1 hS1
      · cases hrun
