/-! ===== abstract runs of whole methods ===== -/
abbrev ai_E : Type := Nat × Nat × Instr × Nat × Nat × Nat × Int
abbrev ai_M : Type := MethodName × ByteArray × Nat × Option FieldType × Nat × Bool × Nat × List ai_E
abbrev ai_y (M : ai_M) : MethodName := M.1
abbrev ai_by (M : ai_M) : ByteArray := M.2.1
abbrev ai_ml (M : ai_M) : Nat := M.2.2.1
abbrev ai_rt' (M : ai_M) : Option FieldType := M.2.2.2.1
abbrev ai_oc (M : ai_M) : Nat := M.2.2.2.2.1
abbrev ai_ii (M : ai_M) : Bool := M.2.2.2.2.2.1
abbrev ai_na (M : ai_M) : Nat := M.2.2.2.2.2.2.1
abbrev ai_cd (M : ai_M) : List ai_E := M.2.2.2.2.2.2.2
def ai_jm : List ai_E → Nat → List ai_E
  | [], _ => []
  | e :: r, t => bif Nat.beq e.1 t then e :: r else ai_jm r t
theorem ai_jm_sub : ∀ {cd : List ai_E} {t : Nat} {e : ai_E}, e ∈ ai_jm cd t → e ∈ cd
  | [], _, _, h => h
  | x :: r, t, e, h => by
    unfold ai_jm at h
    cases hc : Nat.beq x.1 t with
    | true => rw [hc] at h; exact h
    | false => rw [hc] at h; exact List.mem_cons_of_mem _ (ai_jm_sub h)
def ai_cs : List ai_V → Nat
  | [] => 0
  | x :: S => ai_cat x + ai_cs S
theorem ai_cs_ok {b : Nat} {ad : List Nat} : ∀ {S : List ai_V} {st : List Value}, ai_RS b ad S st → (st.map fun v => v.category).sum = ai_cs S
  | [], [], _ => rfl
  | x :: S, v :: st, h => by
    rw [List.map_cons, List.sum_cons, ai_cs_ok h.2, h.1.cat]
    rfl
  | [], _ :: _, h => h.elim
  | _ :: _, [], h => h.elim
def ai_lv0 : Nat → List ai_V → ai_Ls
  | _, [] => []
  | i, x :: S => (i, x) :: ai_lv0 (i + ai_cat x) S
theorem ai_cat12 (x : ai_V) : ai_cat x = 1 ∨ ai_cat x = 2 := by
  unfold ai_cat
  split
  · exact Or.inr rfl
  · exact Or.inl rfl
theorem ai_lv0_ok {b : Nat} {ad : List Nat} : ∀ {S : List ai_V} {st : List Value} (i : Nat), ai_RS b ad S st → ∀ q ∈ ai_lv0 i S, ∃ v, (q.1, v) ∈ lv_args i st ∧ ai_RV b ad q.2 v
  | [], [], _, _, _, h => by cases h
  | x :: S, v :: st, i, h, q, hq => by
    unfold ai_lv0 at hq
    unfold lv_args
    rcases List.mem_cons.mp hq with rfl | hq
    · exact ⟨v, List.mem_cons_self, h.1⟩
    · obtain ⟨u, h1, h2⟩ := ai_lv0_ok _ h.2 q hq
      refine ⟨u, List.mem_cons_of_mem _ ?_, h2⟩
      have e : (if v.category = 2 then i + 2 else i + 1) = i + ai_cat x := by
        rw [h.1.cat]
        rcases ai_cat12 x with q | q <;> rw [q] <;> rfl
      rw [e]
      exact h1
  | [], _ :: _, _, h, _, _ => h.elim
  | _ :: _, [], _, h, _, _ => h.elim
theorem ai_sl_ok {b : Nat} {ad : List Nat} : ∀ {S : List ai_V} {st : List Value}, ai_RS b ad S st → (lg_sl st).length = ai_cs S
  | [], [], _ => rfl
  | x :: S, v :: st, h => by
    have ih := ai_sl_ok h.2
    unfold lg_sl at ih ⊢
    rw [List.flatMap_cons, List.length_append, ih]
    show _ = ai_cat x + ai_cs S
    congr 1
    rw [h.1.cat]
    rcases ai_cat12 x with q | q <;> rw [q] <;> rfl
  | [], _ :: _, h => h.elim
  | _ :: _, [], h => h.elim
theorem ai_RS.app {b : Nat} {ad : List Nat} : ∀ {S T : List ai_V} {st tt : List Value}, ai_RS b ad S st → ai_RS b ad T tt → ai_RS b ad (S ++ T) (st ++ tt)
  | [], _, [], _, _, h => h
  | _ :: _, _, _ :: _, _, h1, h2 => ⟨h1.1, ai_RS.app h1.2 h2⟩
  | [], _, _ :: _, _, h, _ => h.elim
  | _ :: _, _, [], _, h, _ => h.elim
theorem ai_RS.rev {b : Nat} {ad : List Nat} : ∀ {S : List ai_V} {st : List Value}, ai_RS b ad S st → ai_RS b ad S.reverse st.reverse
  | [], [], _ => trivial
  | _ :: _, _ :: _, h => by
    rw [List.reverse_cons, List.reverse_cons]
    exact (ai_RS.rev h.2).app ⟨h.1, trivial⟩
  | [], _ :: _, h => h.elim
  | _ :: _, [], h => h.elim
theorem ai_RS.take {b : Nat} {ad : List Nat} : ∀ {S : List ai_V} {st : List Value} (n : Nat), ai_RS b ad S st → ai_RS b ad (S.take n) (st.take n) ∧ ai_RS b ad (S.drop n) (st.drop n)
  | _, _, 0, h => ⟨by rw [List.take_zero, List.take_zero]; trivial, h⟩
  | [], [], n + 1, _ => ⟨trivial, trivial⟩
  | _ :: _, _ :: _, n + 1, h => ⟨⟨h.1, (ai_RS.take n h.2).1⟩, (ai_RS.take n h.2).2⟩
  | [], _ :: _, n + 1, h => h.elim
  | _ :: _, [], n + 1, h => h.elim
/-- the returns -/
def ai_rc (rt : Option FieldType) (ins : Instr) (S : List ai_V) : Option (Option ai_V) := match ins with
  | .return_ => (match S with
    | [] => (match rt with
      | none => some none
      | some _ => none)
    | _ => none)
  | .ireturn => (match S with
    | [.inr (.inl q)] => (match rt with
      | some ty => bif ai_okf ty (.inr (.inl q)) then some (some (.inr (.inl q))) else none
      | none => none)
    | _ => none)
  | .lreturn => (match S with
    | [.inr (.inr q)] => (match rt with
      | some .long => some (some (.inr (.inr q)))
      | _ => none)
    | _ => none)
  | .areturn => (match S with
    | [.inl q] => (match rt with
      | some (.object _) => some (some (.inl q))
      | some (.array _) => some (some (.inl q))
      | _ => none)
    | _ => none)
  | _ => none
def ai_RR (b : Nat) (ad : List Nat) (r : Option ai_V) (v : Option Value) : Prop := match r, v with
  | none, none => True
  | some x, some u => ai_RV b ad x u
  | _, _ => False
theorem ai_rc_ok {p : Program} {l : Launch} {e : Env} {R : Room} {s : State} {m : MethodId} {args : Array Value} {below : List Frame} {meth : Method} {c : Code} {H : Heap} {locs : List Loc} {cells slots : Nat} {cc : ByteArray} {pc : Nat} {ls : Array Slot} {st : List Value} {bs : Nat} {ad : List Nat} {S : List ai_V} {free : Addr → Prop} {Qc : Array Value → State → Outcome → State → Prop}
    {rt : Option FieldType} {ins : Instr} {r : Option ai_V} (hx : p.tables.exec = Jvm.exec) (hb : c.code = cc) (hr : meth.sig.returnType = rt) (hlocks : meth.locks = false) (hd : decode cc pc = .ok (ins, 1)) (h : ai_rc rt ins S = some r) (hS : ai_RS bs ad S st)
    (hq : ∀ v : Option Value, ai_RR bs ad r v → ∀ t : State, t.heap = H → s.WarmedH t.vm → Qc args s (.returned v) t) (hf : ∀ q ∈ locs, free q.base) : W p l e R s m args below meth c H locs cells slots (MQ below Qc args s cells slots free) (F0 m pc ls st) := by
  unfold ai_rc at h
  split at h
  · split at h
    · split at h
      · cases h
        match st, hS with
        | [], _ => exact W.vret hx hb hr (hq none trivial) hf hd
      · cases h
    · cases h
  · split at h
    · split at h
      · next q ty =>
        obtain ⟨h1, h2⟩ := ai_bif h
        cases h2
        match st, hS with
        | [u], ⟨hu, _⟩ =>
          obtain ⟨hn, -⟩ := ai_okf_ok h1 hu
          obtain ⟨x, rfl, hx2⟩ := hu
          exact W.zret hx hb hr hn (hq (some (.int x)) ⟨x, rfl, hx2⟩) hf hd
        | _ :: _ :: _, hS => exact hS.2.elim
      · cases h
    · cases h
  · split at h
    · split at h
      · cases h
        match st, hS with
        | [u], ⟨hu, _⟩ =>
          obtain ⟨x, rfl, hx2⟩ := hu
          exact W.lret hx hb hr (hq (some (.long x)) ⟨x, rfl, hx2⟩) hf hd
        | _ :: _ :: _, hS => exact hS.2.elim
      · cases h
    · cases h
  · split at h
    · split at h
      · next q n =>
        cases h
        match st, hS with
        | [u], ⟨hu, _⟩ => exact W.aret hx hb hr (Or.inl ⟨_, rfl⟩) (ai_RV.ref hu) (hq (some u) hu) hf hd
        | _ :: _ :: _, hS => exact hS.2.elim
      · next q n =>
        cases h
        match st, hS with
        | [u], ⟨hu, _⟩ => exact W.aret hx hb hr (Or.inr ⟨_, rfl⟩) (ai_RV.ref hu) (hq (some u) hu) hf hd
        | _ :: _ :: _, hS => exact hS.2.elim
      · cases h
    · cases h
  · cases h
/-- a copy of a row of ints -/
def ai_cp (S : List ai_V) (w : ai_W) : Option (List ai_V × ai_W) := match S with
  | .inr (.inl n) :: .inr (.inl dp) :: .inl (some (k1 + 2)) :: .inr (.inl sp) :: .inl (some (k0 + 2)) :: r => (match ai_ix n, ai_ix dp with
    | some n, some dp => (match ai_ix sp with
      | some sp => (match w[k0]?, w[k1]? with
        | some a0, some a1 => bif Nat.beq a0.1 10 && (Nat.beq a1.1 10 && (Nat.ble (sp + n) a0.2.length && (Nat.ble (dp + n) a1.2.length && Nat.ble (ai_cs r) 8))) then some (r, w.set k1 (a1.1, List.replicate a1.2.length (.inr (.inl ai_tI)))) else none
        | _, _ => none)
      | none => none)
    | _, _ => none)
  | _ => none
/-- the receiver of a call -/
def ai_rv (AS : List ai_V) (b : Nat) (w : ai_W) (oc : Nat) : Bool := match AS with
  | .inl (some (k + 2)) :: _ => (match b with
    | 0 => (match w[k]? with
      | some ac => Nat.beq ac.1 oc
      | none => false)
    | _ => true)
  | _ => Nat.beq b 1
theorem ai_rv_ok {AS : List ai_V} {b : Nat} {w : ai_W} {oc : Nat} (h : ai_rv AS b w oc = true) (hb : b ≠ 1) : ∃ k AS', AS = .inl (some (k + 2)) :: AS' ∧ (b = 0 → ∃ ac, w[k]? = some ac ∧ ac.1 = oc) := by
  unfold ai_rv at h
  split at h
  · next k AS' =>
    refine ⟨k, AS', rfl, fun q => ?_⟩
    subst q
    simp only at h
    split at h
    · next ac hac => exact ⟨ac, hac, Nat.eq_of_beq_eq_true h⟩
    · cases h
  · exact absurd (Nat.eq_of_beq_eq_true h) hb
/-- a method's run: fuel, the script (the law's frame alone), the depth that is left, the method, what is left of its code, place, locals, stack, world, cells and slots that were made -/
def ai_ex (mt : List ai_M) : Nat → List ai_V → Nat → ai_M → List ai_E → Nat → ai_Ls → List ai_V → ai_W → Nat → Nat → Option (Option ai_V × ai_W × Nat × Nat)
  | 0, _, _, _, _, _, _, _, _, _, _ => none
  | f + 1, scr, d, M, cd, pc, L, S, w, c, s => match cd with
    | [] => none
    | (pc0, g, ins, len, a, b, z) :: cd' => bif Nat.beq pc0 pc then (match g with
      | 0 => (match ai_gL ins (ai_ml M) z L S with
        | some (L', S') => ai_ex mt f scr d M cd' (pc0 + len) L' S' w c s
        | none => none)
      | 1 => (match ai_gI ins S with
        | some S' => ai_ex mt f scr d M cd' (pc0 + len) L S' w c s
        | none => none)
      | 2 => (match ai_gJ pc0 ins a S with
        | some (some t, S') => ai_ex mt f scr d M (ai_jm (ai_cd M) t) t L S' w c s
        | some (none, S') => ai_ex mt f scr d M cd' (pc0 + 3) L S' w c s
        | none => none)
      | 3 => (match ai_gH (ai_ii M) (ai_oc M) scr ins a b S w with
        | some (S', w', dc, ds) => ai_ex mt f scr d M cd' (pc0 + len) L S' w' (c + dc) (s + ds)
        | none => none)
      | 4 => (match mt[a]?, d with
        | some N, d' + 1 => bif Nat.ble (ai_cs (S.drop (ai_na N))) 8 && (Nat.ble (ai_na N) S.length && (Nat.ble (ai_cs (S.take (ai_na N)).reverse) (ai_ml N) && ai_rv (S.take (ai_na N)).reverse b w (ai_oc N))) then
          (match ai_ex mt f [] d' N (ai_cd N) 0 (ai_lv0 0 (S.take (ai_na N)).reverse) [] w 0 0 with
          | some (r, w', mc, ms) => ai_ex mt f scr d M cd' (pc0 + 3) L (r.toList ++ S.drop (ai_na N)) w' (c + mc) (s + ms)
          | none => none) else none
        | _, _ => none)
      | 5 => (match S, d with
        | .inl (some _) :: r, _ + 1 => bif Nat.ble (ai_cs r) 8 then ai_ex mt f scr d M cd' (pc0 + 3) L r w c s else none
        | _, _ => none)
      | 6 => (match ai_rc (ai_rt' M) ins S with
        | some r => some (r, w, c, s)
        | none => none)
      | 7 => (match ai_cp S w, d with
        | some (S', w'), _ + 1 => ai_ex mt f scr d M cd' (pc0 + 3) L S' w' c s
        | _, _ => none)
      | _ => none) else none
