/-- the private constructors that are called from outside, the text constants -/
def ai_nw : List (String × Nat × MethodName) := [("TheOtherRoom", 26, ⟨"TheOtherRoom$Tape", "<init>", "()V"⟩), ("TheOtherRoom", 33, ⟨"TheOtherRoom$Walk", "<init>", "()V"⟩), ("TheOtherRoom", 40, ⟨"TheOtherRoom$Search", "<init>", "()V"⟩), ("TheOtherRoom$Search", 58, ⟨"TheOtherRoom$Walk", "<init>", "()V"⟩), ("TheOtherRoom", 48, ⟨"TheOtherRoom$Flat", "<init>", "()V"⟩), ("TheOtherRoom", 71, ⟨"TheOtherRoom$Shelf", "<init>", "()V"⟩)]
def ai_sw : List (String × Nat × String) := [("TheOtherRoom$Tape", 45, "board"), ("TheOtherRoom$Tape", 55, "by"), ("TheOtherRoom$Tape", 63, "wall"), ("TheOtherRoom$Tape", 75, "thing"), ("TheOtherRoom$Tape", 113, "at"), ("TheOtherRoom$Tape", 118, "turned"), ("TheOtherRoom$Tape", 130, "heavy"), ("TheOtherRoom$Tape", 135, "fixed"), ("TheOtherRoom$Tape", 139, "plain"), ("TheOtherRoom$Tape", 80, "hands"), ("TheOtherRoom$Tape", 84, "landing"), ("TheOtherRoom$Tape", 88, "door"), ("TheOtherRoomModel", 248, "board"), ("TheOtherRoomModel", 255, "by"), ("TheOtherRoomModel", 257, "wall"), ("TheOtherRoomModel", 259, "hands"), ("TheOtherRoomModel", 261, "landing"), ("TheOtherRoomModel", 263, "door"), ("TheOtherRoomModel", 265, "thing"), ("TheOtherRoomModel", 269, "at"), ("TheOtherRoomModel", 270, "turned"), ("TheOtherRoomModel", 272, "heavy"), ("TheOtherRoomModel", 274, "fixed"), ("TheOtherRoomModel", 276, "plain")]
theorem ai_nw_in : ∀ q ∈ ai_nw, Cond.methodLinkNest q.1 q.2.1 q.2.2 "TheOtherRoom" ∈ lw_tbl := List.forall_mem_cons.mpr ⟨lw_t 32 (by decide +kernel), List.forall_mem_cons.mpr ⟨lw_t 59 (by decide +kernel), List.forall_mem_cons.mpr ⟨lw_t 120 (by decide +kernel), List.forall_mem_cons.mpr ⟨lw_t 125 (by decide +kernel), List.forall_mem_cons.mpr ⟨lw_t 182 (by decide +kernel), List.forall_mem_cons.mpr ⟨lw_t 280 (by decide +kernel), fun _ h => absurd h List.not_mem_nil⟩⟩⟩⟩⟩⟩
theorem ai_sw_in : ∀ q ∈ ai_sw, Cond.stringRef q.1 q.2.1 q.2.2 ∈ lw_tbl := List.forall_mem_cons.mpr ⟨lw_t 580 (by decide +kernel), List.forall_mem_cons.mpr ⟨lw_t 648 (by decide +kernel), List.forall_mem_cons.mpr ⟨lw_t 668 (by decide +kernel), List.forall_mem_cons.mpr ⟨lw_t 679 (by decide +kernel), List.forall_mem_cons.mpr ⟨lw_t 684 (by decide +kernel), List.forall_mem_cons.mpr ⟨lw_t 685 (by decide +kernel), List.forall_mem_cons.mpr ⟨lw_t 687 (by decide +kernel), List.forall_mem_cons.mpr ⟨lw_t 688 (by decide +kernel), List.forall_mem_cons.mpr ⟨lw_t 689 (by decide +kernel), List.forall_mem_cons.mpr ⟨lw_t 690 (by decide +kernel), List.forall_mem_cons.mpr ⟨lw_t 691 (by decide +kernel), List.forall_mem_cons.mpr ⟨lw_t 692 (by decide +kernel), List.forall_mem_cons.mpr ⟨lw_t 1299 (by decide +kernel), List.forall_mem_cons.mpr ⟨lw_t 1318 (by decide +kernel), List.forall_mem_cons.mpr ⟨lw_t 1323 (by decide +kernel), List.forall_mem_cons.mpr ⟨lw_t 1324 (by decide +kernel), List.forall_mem_cons.mpr ⟨lw_t 1325 (by decide +kernel), List.forall_mem_cons.mpr ⟨lw_t 1326 (by decide +kernel), List.forall_mem_cons.mpr ⟨lw_t 1327 (by decide +kernel), List.forall_mem_cons.mpr ⟨lw_t 1332 (by decide +kernel), List.forall_mem_cons.mpr ⟨lw_t 1333 (by decide +kernel), List.forall_mem_cons.mpr ⟨lw_t 1334 (by decide +kernel), List.forall_mem_cons.mpr ⟨lw_t 1335 (by decide +kernel), List.forall_mem_cons.mpr ⟨lw_t 1336 (by decide +kernel), fun _ h => absurd h List.not_mem_nil⟩⟩⟩⟩⟩⟩⟩⟩⟩⟩⟩⟩⟩⟩⟩⟩⟩⟩⟩⟩⟩⟩⟩⟩
theorem oi_inst : Cond.instanceMethod objectInit ∈ ww_ok := ww_t 24 (by decide +kernel)
theorem oi_code : Cond.code objectInit ⟨#[0xb1]⟩ 1 none ∈ ww_ok := ww_t 25 (by decide +kernel)
theorem ac_nat : Cond.native arraycopyName ∈ ww_ok := ww_t 387 (by decide +kernel)
theorem ac_stat : Cond.static arraycopyName ∈ ww_ok := ww_t 386 (by decide +kernel)
theorem ac_ini : Cond.initialized "java/lang/System" ∈ ww_ok := ww_t 9 (by decide +kernel)
/-- what holds of the tables in every frame, and isn't among the words that keep -/
def ai_EN (U : State) : Prop := ai_AV U ∧ (∀ q ∈ ai_nw, va_Nw (.methodLinkNest q.1 q.2.1 q.2.2 "TheOtherRoom") U) ∧ (∀ q ∈ ai_sw, ∃ a : Nat, vk_R q.1 q.2.1 q.2.2 a U)
theorem ai_over {ty : FieldType} {u U : State} (hvm : u.vm.Alike U.vm) (h : (Cond.arrayOver ty).before #[] u = true) : (Cond.arrayOver ty).before #[] U = true := by
  have h1 : (Cond.arrayOver ty).before #[] (u.setVm U.vm) = true := by rw [Cond.arrayOver_setVmC hvm]; exact h
  exact h1
theorem ai_AV.moved {u U : State} (hvm : u.vm.Alike U.vm) (h : ai_AV u) : ai_AV U := ⟨h.1.moved hvm, h.2.1.moved hvm, ai_over hvm h.2.2.1, ai_over hvm h.2.2.2⟩
theorem ai_EN.same {u U : State} (hv : U.vm = u.vm) (h : ai_EN u) : ai_EN U := by
  refine ⟨h.1.moved (by rw [hv]; exact Vm.Alike.refl _), fun q hq => va_Nw.same rfl hv.symm (h.2.1 q hq), fun q hq => ?_⟩
  obtain ⟨a, ha⟩ := h.2.2 q hq
  exact ⟨a, ha.same hv⟩
theorem ai_EN.warm {s U : State} (hW : s.WarmedH U.vm) (h : ai_EN s) : ai_EN U := by
  refine ⟨h.1.moved hW.alike, fun q hq => va_Nw.warmM hW (h.2.1 q hq), fun q hq => ?_⟩
  obtain ⟨a, ha⟩ := h.2.2 q hq
  exact ⟨a, ha.warm hW⟩
theorem ai_RW.moved {D : va_G} {u U : State} {A : Nat → Prop} {b : Nat} {ad : List Nat} {w : ai_W} {H : Heap} (hvm : u.vm.Alike U.vm) (h : ai_RW D u A b ad w H) : ai_RW D U A b ad w H := by
  obtain ⟨ws, tys, hK, hR⟩ := h
  exact ⟨ws, tys, va_K.moved hvm hK, hR⟩
theorem ai_RW.weaken {D : va_G} {u : State} {A B : Nat → Prop} {b : Nat} {ad : List Nat} {w : ai_W} {H : Heap} (h : ai_RW D u A b ad w H) (hAB : ∀ q, A q → B q) : ai_RW D u B b ad w H := by
  obtain ⟨ws, tys, hK, hP, hD, hR⟩ := h
  exact ⟨ws, tys, hK, hP, hD.weaken (fun _ q _ hq => hAB q.1 hq), hR⟩
theorem ai_RW.adA {D : va_G} {u : State} {A : Nat → Prop} {b : Nat} {ad : List Nat} {w : ai_W} {H : Heap} (h : ai_RW D u A b ad w H) : ∀ q ∈ ad, A q := by
  obtain ⟨ws, tys, hK, hP, hD, had, hR⟩ := h
  intro q hq
  rw [had] at hq
  obtain ⟨x, hx, rfl⟩ := List.mem_map.mp hq
  obtain ⟨k, hk⟩ := List.getElem?_of_mem hx
  exact hD.2 k x hk
/-- a method's own part of the heap: the world's cells, and those that it makes -/
def ai_FA (ad : List Nat) (sz : Nat) : Nat → Prop := fun q => q ∈ ad ∨ sz ≤ q
def ai_Qc (D : va_G) (bs : Nat) (ad : List Nat) (sz : Nat) (r : Option ai_V) (w' : ai_W) : Array Value → State → Outcome → State → Prop := fun _ st oc t =>
  (∃ (v : Option Value) (ad' : List Nat), oc = .returned v ∧ (∃ tl, ad' = ad ++ tl) ∧ ai_RR bs ad' r v ∧ ai_RW D t (ai_FA ad sz) bs ad' w' t.heap) ∧ va_F (ai_FA ad sz) st t
def ai_ws (N : ai_M) : List Cond := Cond.code (ai_y N) (ai_by N) (ai_ml N) (ai_rt' N) :: ww_ok
def ai_Pc (D : va_G) (bs : Nat) (ad : List Nat) (sz : Nat) (w : ai_W) (vs : List Value) : Array Value → State → Prop := va_Pc vs (fun U => U.heap.size = sz ∧ ai_EN U ∧ ai_RW D U (fun _ => True) bs ad w U.heap)
theorem ai_blind (D : va_G) (bs : Nat) (ad : List Nat) (sz : Nat) (w : ai_W) (vs : List Value) : FrameBlind (ai_Pc D bs ad sz w vs) := fun _ U _ _ q => ⟨q.1, q.2.1, q.2.2.1.same rfl, q.2.2.2.moved (Vm.Alike.refl U.vm)⟩
/-- what is known of an instruction beforehand -/
def ai_par (N : ai_M) : Option Nat := (parseMethodDescriptor (ai_y N).desc).map (fun d => d.parameters.length)
def ai_NV (own : String) (i : Nat) (N : ai_M) : Prop := Cond.methodLink own i (ai_y N) ∈ ww_ok ∧ Cond.instanceMethod (ai_y N) ∈ ww_ok ∧ Cond.selects (ai_y N).cls (ai_y N) (ai_y N) ∈ ww_ok ∧ (∃ k, ai_na N = k + 1 ∧ ai_par N = some k) ∧ ∃ q, classes[ai_oc N]? = some q ∧ q.1 = (ai_y N).cls
def ai_NS (own : String) (i : Nat) (N : ai_M) : Prop := Cond.methodLink own i (ai_y N) ∈ ww_ok ∧ Cond.static (ai_y N) ∈ ww_ok ∧ ai_par N = some (ai_na N)
def ai_NI (own : String) (i : Nat) (N : ai_M) : Prop := Cond.methodLink own i (ai_y N) ∈ ww_ok ∧ Cond.instanceMethod (ai_y N) ∈ ww_ok ∧ (ai_y N).name = "<init>" ∧ ai_rt' N = none ∧ ∃ k, ai_na N = k + 1 ∧ ai_par N = some k
def ai_NX (own : String) (i : Nat) (N : ai_M) : Prop := (own, i, ai_y N) ∈ ai_nw ∧ Cond.instanceMethod (ai_y N) ∈ ww_ok ∧ (ai_y N).name = "<init>" ∧ ai_rt' N = none ∧ ∃ k, ai_na N = k + 1 ∧ ai_par N = some k
def ai_CF (own : String) (N : ai_M) (ins : Instr) (b : Nat) : Prop := ∃ i : Nat, (b = 0 ∧ ins = .invokevirtual i ∧ ai_NV own i N) ∨ (b = 1 ∧ ins = .invokestatic i ∧ ai_NS own i N) ∨ (b = 2 ∧ ins = .invokespecial i ∧ ai_NI own i N) ∨ (b = 3 ∧ ins = .invokespecial i ∧ ai_NX own i N)
def ai_EK (mt : List ai_M) (M : ai_M) (x : ai_E) : Prop := decode (ai_by M) x.1 = .ok (x.2.2.1, x.2.2.2.1) ∧ match x.2.1 with
  | 0 => ai_len x.2.2.1 = x.2.2.2.1 ∧ (∀ i, x.2.2.1 = .ldc2_w i → ∃ v : Int64, v.toInt = x.2.2.2.2.2.2 ∧ Cond.constantLong (cn_of (ai_oc M)) i v ∈ ww_ok) ∧ (∀ i, x.2.2.1 = .ldc i → ∃ tx, (cn_of (ai_oc M), i, tx) ∈ ai_sw)
  | 1 => ai_len x.2.2.1 = x.2.2.2.1
  | 2 => (ai_len x.2.2.1 = x.2.2.2.1 ∨ ∃ d lo hi offs, x.2.2.1 = .tableswitch d lo hi offs) ∧ ai_tg x.1 x.2.2.1 x.2.2.2.2.1
  | 3 => ai_len x.2.2.1 = x.2.2.2.1 ∧ ai_hf (cn_of (ai_oc M)) x.2.2.1 x.2.2.2.2.1 x.2.2.2.2.2.1
  | 4 => x.2.2.2.1 = 3 ∧ ∀ N, mt[x.2.2.2.2.1]? = some N → ai_CF (cn_of (ai_oc M)) N x.2.2.1 x.2.2.2.2.2.1
  | 5 => x.2.2.2.1 = 3 ∧ ∃ i, x.2.2.1 = .invokespecial i ∧ Cond.methodLink (cn_of (ai_oc M)) i objectInit ∈ ww_ok
  | 6 => x.2.2.2.1 = 1
  | 7 => x.2.2.2.1 = 3 ∧ ∃ i, x.2.2.1 = .invokestatic i ∧ Cond.methodLink (cn_of (ai_oc M)) i arraycopyName ∈ ww_ok
  | _ => True
def ai_NK (mt : List ai_M) (N : ai_M) : Prop := Cond.code (ai_y N) (ai_by N) (ai_ml N) (ai_rt' N) ∈ ww_ok ∧ Cond.initialized (ai_y N).cls ∈ ww_ok ∧ plainName (ai_y N).cls = true ∧ ((ai_y N).cls ≠ "java/lang/invoke/MethodHandle" ∧ (ai_y N).cls ≠ "java/lang/invoke/VarHandle") ∧ (ai_y N).cls = cn_of (ai_oc N) ∧ ai_ml N ≤ 26 ∧ (ai_ii N = true → (ai_y N).name = "<init>") ∧ ∀ x ∈ ai_cd N, ai_EK mt N x
theorem cn_cl : ∀ {k : Nat} {q : vw_C}, classes[k]? = some q → cn_of k = q.1 := by
  intro k q h
  match k, h with
  | 0, h => cases h; rfl
  | 1, h => cases h; rfl
  | 2, h => cases h; rfl
  | 3, h => cases h; rfl
  | 4, h => cases h; rfl
  | 5, h => cases h; rfl
  | 6, h => cases h; rfl
  | k + 7, h => exact absurd (List.getElem?_eq_some_iff.mp h).1 (by show ¬ k + 7 < 7; omega)
/-- a frame's standing facts -/
def ai_FX (p : Program) (R : Room) (s : State) (m : MethodId) (args : Array Value) (meth : Method) (c : Code) (M : ai_M) (d C Z : Nat) (A : Nat → Prop) (H0 : Heap) (bs : Nat) (scr : List ai_V) : Prop :=
  p.tables.exec = Jvm.exec ∧ c.code = ai_by M ∧ c.maxLocals = ai_ml M ∧ s.vm.findClass (cn_of (ai_oc M)) = some m.cls ∧ (∀ w ∈ ww_ok, w.before args s = true) ∧ ai_EN s ∧ (ai_ii M = true → meth.name = "<init>") ∧ ai_SC scr bs A H0 s ∧ d ≤ R.frames ∧ 45 * d ≤ R.locals ∧ C ≤ R.cells ∧ Z ≤ R.slots ∧ ∀ q, H0.size ≤ q → A q
def ai_GO (l : Launch) (scr : List ai_V) (d : Nat) (M : ai_M) (pc : Nat) (L : ai_Ls) (S : List ai_V) (w : ai_W) (c0 s0 : Nat) (r : Option ai_V) (w' : ai_W) (C Z : Nat) : Prop :=
  ∀ (p : Program) (e : Env) (R : Room) (s : State) (m : MethodId) (args : Array Value) (below : List Frame) (meth : Method) (c : Code) (H : Heap) (locs : List Loc) (Q : State → Prop) (D : va_G) (A : Nat → Prop) (H0 : Heap) (bs : Nat) (ad : List Nat) (ls : Array Slot) (st : List Value),
    ai_FX p R s m args meth c M d C Z A H0 bs scr → ai_RW D s A bs ad w H → va_S A H0 H locs → ai_RL bs ad (ai_ml M) L ls → ai_RS bs ad S st →
    (∀ (pc' : Nat) (ls' : Array Slot) (st' : List Value) (H1 : Heap) (locs1 : List Loc) (ad' : List Nat) (ins : Instr) (S' : List ai_V), (∃ t, ad' = ad ++ t) → ai_RW D s A bs ad' w' H1 → va_S A H0 H1 locs1 → decode (ai_by M) pc' = .ok (ins, 1) → ai_rc (ai_rt' M) ins S' = some r → ai_RS bs ad' S' st' → W p l e R s m args below meth c H1 locs1 C Z Q (F0 m pc' ls' st')) →
    W p l e R s m args below meth c H locs c0 s0 Q (F0 m pc ls st)
theorem ai_pre_trans {a b c : List Nat} (h1 : ∃ t, b = a ++ t) (h2 : ∃ t, c = b ++ t) : ∃ t, c = a ++ t := by
  obtain ⟨t, rfl⟩ := h1
  obtain ⟨u, rfl⟩ := h2
  exact ⟨t ++ u, by rw [List.append_assoc]⟩
theorem ai_met {l : Launch} {mt : List ai_M} {N : ai_M} {d : Nat} {AS : List ai_V} {w w' : ai_W} {r : Option ai_V} {mc ms : Nat} (hN : ai_NK mt N) (hcs : ai_cs AS ≤ ai_ml N) (hg : ai_GO l [] d N 0 (ai_lv0 0 AS) [] w 0 0 r w' mc ms) (D : va_G) (bs : Nat) (ad : List Nat) (sz : Nat) (vs : List Value) (hAS : ai_RS bs ad AS vs) :
    Met l (ai_y N) (ai_ws N) ({ frames := d, cells := mc, slots := ms, locals := 45 * d }) (ai_Pc D bs ad sz w vs) (ai_Qc D bs ad sz r w') mc ms (ai_FA ad sz) := by
  obtain ⟨hN1, hN2, hN3, hN4, hN5, hN6, hN7, hN8⟩ := hN
  refine Met.ofW (cc := ai_by N) (maxL := ai_ml N) (ret := ai_rt' N) hN3 rfl ?_
  intro p e s m args below meth c s₁ B hml hv
  obtain ⟨rfl, hsz, hEN, hRW⟩ := hv
  have hts := atoms_spec (ws := ai_ws N) B.pre
  subst hsz
  obtain ⟨ws, tys, hK, hP, hD, had, hlen, hR⟩ := hRW
  have hD' : va_D (ai_FA ad s.heap.size) ws := ⟨hD.1, fun k q hq => Or.inl (by rw [had]; exact List.mem_map.mpr ⟨q, List.mem_of_getElem? hq, rfl⟩)⟩
  have hl := lv_entry vs (n := ai_ml N) (by rw [ai_sl_ok hAS]; exact hcs)
  rw [lg_entry_eq]
  exact hg p e _ s m _ below meth c s.heap [] _ D (ai_FA ad s.heap.size) s.heap bs ad _ [] ⟨B.exec, B.bytes, hml, by rw [← hN5]; exact findClass_of_methodNamed B.named, fun w hw => hts w (List.mem_cons_of_mem _ hw), hEN, fun h => by rw [(name_of_methodNamed B.named B.method).1]; exact hN7 h, Or.inl rfl, Nat.le_refl _, Nat.le_refl _, Nat.le_refl _, Nat.le_refl _, fun q h => Or.inr h⟩
    ⟨ws, tys, hK, hP, hD', had, hlen, hR⟩ va_S.rf ⟨_, hl, ai_lv0_ok 0 hAS⟩ trivial (fun pc' ls' st' H1 locs1 ad' ins S' hpre hRW1 hS1 hd hrc hRS => ai_rc_ok B.exec B.bytes B.returns B.notSynchronized hd hrc hRS (fun v hv t ht hW => ⟨⟨v, ad', rfl, hpre, hv, by rw [ht]; exact hRW1.moved hW.alike⟩, hS1.F ht⟩) hS1.2.2)
section AIB
variable {p : Program} {l : Launch} {e : Env} {R : Room} {s : State} {m : MethodId} {args : Array Value} {below : List Frame} {meth : Method} {c : Code} {H : Heap} {locs : List Loc} {cells slots mc ms : Nat} {Q : State → Prop}
variable {pc : Nat} {ls : Array Slot} {st0 rest : List Value} {D : va_G} {A : Nat → Prop} {H0 : Heap} {bs : Nat} {ad : List Nat} {w' : ai_W} {r : Option ai_V} {a : Array Value}
theorem ai_back (hr : va_Run p l e R s m args below meth c H locs cells slots mc ms (F0 m pc ls st0) rest (ai_Qc D bs ad H.size r w' a) (ai_FA ad H.size)) (hV : va_S A H0 H locs) (hFA : ∀ q, ai_FA ad H.size q → A q)
    (kk : ∀ (v : Option Value) (H1 : Heap) (locs1 : List Loc) (ad' : List Nat), (∃ tl, ad' = ad ++ tl) → ai_RR bs ad' r v → ai_RW D s A bs ad' w' H1 → va_S A H0 H1 locs1 → W p l e R s m args below meth c H1 locs1 (cells + mc) (slots + ms) Q (F0 m (pc + 3) ls (v.toList ++ rest))) : W p l e R s m args below meth c H locs cells slots Q (F0 m pc ls st0) := by
  intro T hT X
  obtain ⟨v, st₀, t, T', L, h0, X', hL, e1, e2, ⟨⟨v', ad', hv, hpre, hrr, hrw⟩, hz, hk⟩, st⟩ := hr T hT X
  cases hv
  rw [h0] at hz hk
  have hvm : s.vm.Alike t.vm := by rw [← e2]; exact X'.warmed.alike
  obtain ⟨t2, a1, b1⟩ := kk v T'.heap (locs ++ L) ad' hpre hrr (by rw [e1]; exact (hrw.moved hvm.symm).weaken hFA)
    ⟨Nat.le_trans hV.1 (by rw [e1]; exact hz), fun q h1 h2 => by rw [e1, hk q (Nat.lt_of_lt_of_le h1 hV.1) (fun z => h2 (hFA q z))]; exact hV.2.1 q h1 h2, fun q hq => by
      rcases List.mem_append.mp hq with h | h
      · exact hV.2.2 q h
      · exact hFA _ (hL q h)⟩ T' rfl X'
  exact ⟨t2, st t2 a1, b1⟩
end AIB
theorem ww_goodIn (N : ai_M) (h : Cond.code (ai_y N) (ai_by N) (ai_ml N) (ai_rt' N) ∈ ww_ok) : GoodIn ww_ok (ai_ws N) := by
  intro w hw
  rcases List.mem_cons.mp hw with rfl | hw
  · exact ⟨h, good_of_word (ww_good _ h)⟩
  · exact ⟨hw, good_of_word (ww_good _ hw)⟩
