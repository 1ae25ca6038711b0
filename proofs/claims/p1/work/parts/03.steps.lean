/-! ===== one instruction of an abstract run: constants, locals, the stack; numbers; branches ===== -/
theorem ai_toI {n : Int} (h1 : -2147483648 ≤ n) (h2 : n ≤ 2147483647) : (Int32.ofInt n).toInt = n := Int32.toInt_ofInt_of_le (by omega) (by omega)
theorem ai_RV.rsm {b : Nat} {ad : List Nat} {k : Nat} {v : Value} (h : ai_RV b ad (.inl (some k)) v) : ∃ a : Nat, v = .ref a := by
  match k, h with
  | 0, v => exact ⟨_, v⟩
  | 1, v => exact v
  | k + 2, v => obtain ⟨a, -, v⟩ := v; exact ⟨a, v⟩
section AIG
variable {p : Program} {l : Launch} {e : Env} {R : Room} {s : State} {m : MethodId} {args : Array Value} {below : List Frame} {meth : Method} {c : Code} {H : Heap} {locs : List Loc} {cells slots : Nat} {Q : State → Prop}
variable {cc : ByteArray} {pc : Nat} {ls : Array Slot} {st : List Value} {b nL : Nat} {ad : List Nat} {L L' : ai_Ls} {S S' : List ai_V}
theorem ai_gL_ok (hx : p.tables.exec = Jvm.exec) (hb : c.code = cc) {own : String} (hown : s.vm.findClass own = some m.cls) {ins : Instr} {z : Int} (hd : decode cc pc = .ok (ins, ai_len ins))
    (hc2 : ∀ i, ins = .ldc2_w i → ∃ v : Int64, v.toInt = z ∧ (Cond.constantLong own i v).before args s = true)
    (hcS : ∀ i, ins = .ldc i → ∃ (tx : String) (q : Nat), vk_R own i tx q s)
    (h : ai_gL ins nL z L S = some (L', S')) (hL : ai_RL b ad nL L ls) (hS : ai_RS b ad S st)
    (kk : ∀ (ls' : Array Slot) (st' : List Value), ai_RL b ad nL L' ls' → ai_RS b ad S' st' → W p l e R s m args below meth c H locs cells slots Q (F0 m (pc + ai_len ins) ls' st')) : W p l e R s m args below meth c H locs cells slots Q (F0 m pc ls st) := by
  unfold ai_gL at h
  split at h
  · next n =>
    obtain ⟨h1, h2⟩ := ai_bif h
    cases h2
    rw [Bool.and_eq_true, ai_le_iff, ai_le_iff] at h1
    have e1 := ai_toI (n := n) (by omega) (by omega)
    exact lv_iconst hx hb hd rfl (kk _ _ hL ⟨⟨_, rfl, by rw [e1]; exact Int.le_refl _, by rw [e1]; exact Int.le_refl _⟩, hS⟩)
  · next n =>
    obtain ⟨h1, h2⟩ := ai_bif h
    cases h2
    rw [Bool.and_eq_true, ai_le_iff, ai_le_iff] at h1
    have e1 : (Int8.ofInt n).toInt32.toInt = n := by rw [Int8.toInt_toInt32]; exact Int8.toInt_ofInt_of_le (by omega) (by omega)
    exact lv_bipush hx hb hd rfl (kk _ _ hL ⟨⟨_, rfl, by rw [e1]; exact Int.le_refl _, by rw [e1]; exact Int.le_refl _⟩, hS⟩)
  · next n =>
    obtain ⟨h1, h2⟩ := ai_bif h
    cases h2
    rw [Bool.and_eq_true, ai_le_iff, ai_le_iff] at h1
    have e1 : (Int16.ofInt n).toInt32.toInt = n := by rw [Int16.toInt_toInt32]; exact Int16.toInt_ofInt_of_le (by omega) (by omega)
    exact lv_sipush hx hb hd rfl (kk _ _ hL ⟨⟨_, rfl, by rw [e1]; exact Int.le_refl _, by rw [e1]; exact Int.le_refl _⟩, hS⟩)
  · next n =>
    cases h
    have e1 : (Int64.ofNat n.val).toInt = (n.val : Int) := Int64.toInt_ofNat_of_lt (by have := n.isLt; omega)
    exact lv_lconst hx hb hd rfl (kk _ _ hL ⟨⟨_, rfl, by rw [e1]; exact Int.le_refl _, by rw [e1]; exact Int.le_refl _⟩, hS⟩)
  · next i =>
    cases h
    obtain ⟨v, hv, hc⟩ := hc2 i rfl
    exact lv_ldc2 hx hb hown hc hd (kk _ _ hL ⟨⟨_, rfl, by rw [hv]; exact Int.le_refl _, by rw [hv]; exact Int.le_refl _⟩, hS⟩)
  · next i =>
    cases h
    obtain ⟨tx, q, hc⟩ := hcS i rfl
    exact va_ldcS hx hb hown hc hd (kk _ _ hL ⟨⟨_, rfl⟩, hS⟩)
  · cases h
    exact lv_null hx hb hd (kk _ _ hL ⟨rfl, hS⟩)
  · next k =>
    obtain ⟨x, h1, h2, h3⟩ := ai_ldI_ok h hL hS
    exact lv_iload_n hx hb hd rfl h1 (kk _ _ h2 h3)
  · next k =>
    obtain ⟨x, h1, h2, h3⟩ := ai_ldI_ok h hL hS
    exact lv_iload hx hb hd h1 (kk _ _ h2 h3)
  · next k =>
    obtain ⟨x, h1, h2, h3⟩ := ai_ldL_ok h hL hS
    exact lv_lload_n hx hb hd rfl h1 (kk _ _ h2 h3)
  · next k =>
    obtain ⟨x, h1, h2, h3⟩ := ai_ldL_ok h hL hS
    exact lv_lload hx hb hd h1 (kk _ _ h2 h3)
  · next k =>
    obtain ⟨x, h0, h1, h2, h3⟩ := ai_ldA_ok h hL hS
    rcases h0 with rfl | ⟨a, rfl⟩
    · exact lv_aload_nN hx hb hd rfl h1 (kk _ _ h2 h3)
    · exact lv_aload_n hx hb hd rfl h1 (kk _ _ h2 h3)
  · next k =>
    obtain ⟨x, h0, h1, h2, h3⟩ := ai_ldA_ok h hL hS
    rcases h0 with rfl | ⟨a, rfl⟩
    · exact lv_aloadN hx hb hd h1 (kk _ _ h2 h3)
    · exact lv_aload hx hb hd h1 (kk _ _ h2 h3)
  · next k =>
    obtain ⟨x, st', lv, rfl, h1, h2, h3, h4⟩ := ai_stI_ok h hL hS
    exact lv_istore_n hx hb hd rfl h2 h1 rfl (fun ls' h5 => kk _ _ (h4 _ h5) h3)
  · next k =>
    obtain ⟨x, st', lv, rfl, h1, h2, h3, h4⟩ := ai_stI_ok h hL hS
    exact lv_istore hx hb hd h2 h1 rfl (fun ls' h5 => kk _ _ (h4 _ h5) h3)
  · next k =>
    obtain ⟨x, st', lv, h0, rfl, h1, h2, h3, h4⟩ := ai_stA_ok h hL hS
    rcases h0 with rfl | ⟨a, rfl⟩
    · exact lv_astore_nN hx hb hd rfl h2 h1 rfl (fun ls' h5 => kk _ _ (h4 _ h5) h3)
    · exact lv_astore_n hx hb hd rfl h2 h1 rfl (fun ls' h5 => kk _ _ (h4 _ h5) h3)
  · next k =>
    obtain ⟨x, st', lv, h0, rfl, h1, h2, h3, h4⟩ := ai_stA_ok h hL hS
    rcases h0 with rfl | ⟨a, rfl⟩
    · exact lv_astoreN hx hb hd h2 h1 rfl (fun ls' h5 => kk _ _ (h4 _ h5) h3)
    · exact lv_astore hx hb hd h2 h1 rfl (fun ls' h5 => kk _ _ (h4 _ h5) h3)
  · next i n =>
    split at h
    · next q hq =>
      obtain ⟨h1, h2⟩ := ai_bif h
      cases h2
      rw [Bool.and_eq_true, Bool.and_eq_true, ai_le_iff, ai_le_iff] at h1
      obtain ⟨h1, h1a, h1b⟩ := h1
      have hi : i < nL := by simpa using h1
      obtain ⟨lv, g1, g2⟩ := hL
      obtain ⟨v, g3, x, rfl, g4, g5⟩ := g2 _ (ai_lk_mem hq)
      obtain ⟨k, hk⟩ := List.getElem?_of_mem g3
      have e1 : (x + Int32.ofInt n).toInt = (x.toInt + n).bmod (2 ^ 32) := by
        rw [Int32.toInt_add, ai_toI (n := n) (by omega) (by omega)]
      exact lv_iinc hx hb hd g1 hk rfl hi rfl (fun ls' h5 => kk _ _ (ai_RL.st g2 ⟨_, rfl, by rw [e1]; exact ai_nm_ok (by omega) (by omega)⟩ h5) hS)
    · cases h
  · split at h
    · next x r =>
      obtain ⟨h1, h2⟩ := ai_bif h
      cases h2
      match st, hS with
      | v :: st', hS => exact lv_dup hx hb hd (by rw [hS.1.cat]; exact Nat.eq_of_beq_eq_true h1) (kk _ _ hL ⟨hS.1, hS⟩)
    · cases h
  · split at h
    · next x r =>
      cases hc : Nat.beq (ai_cat x) 2 with
      | true =>
        rw [hc] at h
        cases h
        match st, hS with
        | v :: st', hS => exact lv_dup2_2 hx hb hd (by rw [hS.1.cat]; exact Nat.eq_of_beq_eq_true hc) (kk _ _ hL ⟨hS.1, hS⟩)
      | false =>
        rw [hc] at h
        simp only [cond_false] at h
        split at h
        · next y r' =>
          obtain ⟨h1, h2⟩ := ai_bif h
          cases h2
          rw [Bool.and_eq_true] at h1
          match st, hS with
          | v :: u :: st', hS => exact lv_dup2_11 hx hb hd (by rw [hS.1.cat]; exact Nat.eq_of_beq_eq_true h1.1) (by rw [hS.2.1.cat]; exact Nat.eq_of_beq_eq_true h1.2) (kk _ _ hL ⟨hS.1, hS.2.1, hS⟩)
          | [_], hS => exact hS.2.elim
        · cases h
    · cases h
  · split at h
    · next x y r =>
      obtain ⟨h1, h2⟩ := ai_bif h
      cases h2
      rw [Bool.and_eq_true] at h1
      match st, hS with
      | v :: u :: st', hS => exact lv_dup_x1 hx hb hd (by rw [hS.1.cat]; exact Nat.eq_of_beq_eq_true h1.1) (by rw [hS.2.1.cat]; exact Nat.eq_of_beq_eq_true h1.2) (kk _ _ hL ⟨hS.1, hS.2.1, hS.1, hS.2.2⟩)
      | [_], hS => exact hS.2.elim
    · cases h
  · split at h
    · next x r =>
      obtain ⟨h1, h2⟩ := ai_bif h
      cases h2
      match st, hS with
      | v :: st', hS => exact lv_pop hx hb hd (by rw [hS.1.cat]; exact Nat.eq_of_beq_eq_true h1) (kk _ _ hL hS.2)
    · cases h
  · cases h
/-- numbers -/
def ai_01 (q : Int × Int) : Option Bool := bif ai_le 0 q.1 && ai_le q.2 0 then some false else bif ai_le 1 q.1 && ai_le q.2 1 then some true else none
def ai_gI (ins : Instr) (S : List ai_V) : Option (List ai_V) := match ins with
  | .iadd => (match S with
    | .inr (.inl y) :: .inr (.inl x) :: r => some (.inr (.inl (ai_nm (x.1 + y.1) (x.2 + y.2))) :: r)
    | _ => none)
  | .isub => (match S with
    | .inr (.inl y) :: .inr (.inl x) :: r => some (.inr (.inl (ai_nm (x.1 - y.2) (x.2 - y.1))) :: r)
    | _ => none)
  | .imul => (match S with
    | .inr (.inl y) :: .inr (.inl x) :: r => some (.inr (.inl (bif ai_le x.2 x.1 && ai_le y.2 y.1 then ai_nm (x.1 * y.1) (x.1 * y.1) else ai_tI)) :: r)
    | _ => none)
  | .iand => (match S with
    | .inr (.inl y) :: .inr (.inl x) :: r => some (.inr (.inl (match ai_01 x, ai_01 y with
      | some u, some v => bif u && v then (1, 1) else (0, 0)
      | _, _ => ai_tI)) :: r)
    | _ => none)
  | .ineg => (match S with
    | .inr (.inl x) :: r => some (.inr (.inl (ai_nm (-x.2) (-x.1))) :: r)
    | _ => none)
  | .ishr => (match S with
    | .inr (.inl _) :: .inr (.inl _) :: r => some (.inr (.inl ai_tI) :: r)
    | _ => none)
  | .i2b => (match S with
    | .inr (.inl _) :: r => some (.inr (.inl ai_tI) :: r)
    | _ => none)
  | .i2l => (match S with
    | .inr (.inl x) :: r => some (.inr (.inr x) :: r)
    | _ => none)
  | .land => (match S with
    | .inr (.inr _) :: .inr (.inr _) :: r => some (.inr (.inr ai_tL) :: r)
    | _ => none)
  | .lor => (match S with
    | .inr (.inr _) :: .inr (.inr _) :: r => some (.inr (.inr ai_tL) :: r)
    | _ => none)
  | .lshl => (match S with
    | .inr (.inl _) :: .inr (.inr _) :: r => some (.inr (.inr ai_tL) :: r)
    | _ => none)
  | .lcmp => (match S with
    | .inr (.inr y) :: .inr (.inr x) :: r => some (.inr (.inl (bif ai_lt y.2 x.1 then 1 else bif ai_le y.2 x.1 then 0 else -1, bif ai_lt x.2 y.1 then -1 else bif ai_le x.2 y.1 then 0 else 1)) :: r)
    | _ => none)
  | _ => none
theorem ai_01_ok {q : Int × Int} {t : Bool} {x : Int32} (h : ai_01 q = some t) (h1 : q.1 ≤ x.toInt) (h2 : x.toInt ≤ q.2) : x = if t then 1 else 0 := by
  unfold ai_01 at h
  cases hc : (ai_le 0 q.1 && ai_le q.2 0) with
  | true =>
    rw [hc] at h
    cases h
    rw [Bool.and_eq_true, ai_le_iff, ai_le_iff] at hc
    exact Int32.toInt_inj.mp (by show x.toInt = 0; omega)
  | false =>
    rw [hc] at h
    simp only [cond_false] at h
    obtain ⟨hc, h⟩ := ai_bif h
    cases h
    rw [Bool.and_eq_true, ai_le_iff, ai_le_iff] at hc
    exact Int32.toInt_inj.mp (by show x.toInt = 1; omega)
theorem ai_lcmp_ok {q r : Int × Int} {x y : Int64} (h1 : q.1 ≤ x.toInt) (h2 : x.toInt ≤ q.2) (h3 : r.1 ≤ y.toInt) (h4 : y.toInt ≤ r.2) :
    (bif ai_lt r.2 q.1 then (1 : Int) else bif ai_le r.2 q.1 then 0 else -1) ≤ (lg_cmp x y).toInt ∧ (lg_cmp x y).toInt ≤ (bif ai_lt q.2 r.1 then (-1 : Int) else bif ai_le q.2 r.1 then 0 else 1) := by
  have e : (lg_cmp x y).toInt = if y.toInt < x.toInt then 1 else if x.toInt = y.toInt then 0 else -1 := by
    unfold lg_cmp
    simp only [gt_iff_lt, Int64.lt_iff_toInt_lt, ← Int64.toInt_inj]
    split
    · rfl
    · split <;> rfl
  rw [e]
  have k1 := ai_lt_iff r.2 q.1
  have k2 := ai_le_iff r.2 q.1
  have k3 := ai_lt_iff q.2 r.1
  have k4 := ai_le_iff q.2 r.1
  constructor
  · cases c1 : ai_lt r.2 q.1 with
    | true =>
      have := k1.mp c1
      simp only [cond_true]
      split <;> omega
    | false =>
      simp only [cond_false]
      cases c2 : ai_le r.2 q.1 with
      | true =>
        have := k2.mp c2
        simp only [cond_true]
        split
        · omega
        · split <;> omega
      | false =>
        simp only [cond_false]
        split
        · omega
        · split <;> omega
  · cases c1 : ai_lt q.2 r.1 with
    | true =>
      have := k3.mp c1
      simp only [cond_true]
      split
      · omega
      · split <;> omega
    | false =>
      simp only [cond_false]
      cases c2 : ai_le q.2 r.1 with
      | true =>
        have := k4.mp c2
        simp only [cond_true]
        split
        · omega
        · split <;> omega
      | false =>
        simp only [cond_false]
        split
        · omega
        · split <;> omega
theorem ai_gI_ok (hx : p.tables.exec = Jvm.exec) (hb : c.code = cc) {ins : Instr} (hd : decode cc pc = .ok (ins, ai_len ins)) (h : ai_gI ins S = some S') (hS : ai_RS b ad S st)
    (kk : ∀ st' : List Value, ai_RS b ad S' st' → W p l e R s m args below meth c H locs cells slots Q (F0 m (pc + ai_len ins) ls st')) : W p l e R s m args below meth c H locs cells slots Q (F0 m pc ls st) := by
  unfold ai_gI at h
  split at h
  · split at h
    · next y x r =>
      cases h
      match st, hS with
      | _ :: _ :: st', ⟨⟨v, rfl, a1, a2⟩, ⟨u, rfl, b1, b2⟩, hS⟩ => exact lv_iadd hx hb hd (kk _ ⟨⟨_, rfl, by rw [Int32.toInt_add]; exact ai_nm_ok (by omega) (by omega)⟩, hS⟩)
      | [_], hS => exact hS.2.elim
    · cases h
  · split at h
    · next y x r =>
      cases h
      match st, hS with
      | _ :: _ :: st', ⟨⟨v, rfl, a1, a2⟩, ⟨u, rfl, b1, b2⟩, hS⟩ => exact lv_isub hx hb hd (kk _ ⟨⟨_, rfl, by rw [Int32.toInt_sub]; exact ai_nm_ok (by omega) (by omega)⟩, hS⟩)
      | [_], hS => exact hS.2.elim
    · cases h
  · split at h
    · next y x r =>
      cases h
      match st, hS with
      | _ :: _ :: st', ⟨⟨v, rfl, a1, a2⟩, ⟨u, rfl, b1, b2⟩, hS⟩ =>
        refine lv_imul hx hb hd (kk _ ⟨⟨_, rfl, ?_⟩, hS⟩)
        cases hc : (ai_le x.2 x.1 && ai_le y.2 y.1) with
        | true =>
          simp only [cond_true]
          rw [Bool.and_eq_true, ai_le_iff, ai_le_iff] at hc
          have e1 : u.toInt = x.1 := by omega
          have e2 : v.toInt = y.1 := by omega
          rw [Int32.toInt_mul, e1, e2]
          exact ai_nm_ok (Int.le_refl _) (Int.le_refl _)
        | false =>
          simp only [cond_false]
          exact ai_tI_ok _
      | [_], hS => exact hS.2.elim
    · cases h
  · split at h
    · next y x r =>
      cases h
      match st, hS with
      | _ :: _ :: st', ⟨⟨v, rfl, a1, a2⟩, ⟨u, rfl, b1, b2⟩, hS⟩ =>
        refine lv_iand hx hb hd (kk _ ⟨⟨_, rfl, ?_⟩, hS⟩)
        split
        · next t1 t2 e1 e2 =>
          rw [ai_01_ok e1 b1 b2, ai_01_ok e2 a1 a2]
          cases t1 <;> cases t2 <;> decide
        · exact ai_tI_ok _
      | [_], hS => exact hS.2.elim
    · cases h
  · split at h
    · next x r =>
      cases h
      match st, hS with
      | _ :: st', ⟨⟨v, rfl, a1, a2⟩, hS⟩ => exact lv_ineg hx hb hd (kk _ ⟨⟨_, rfl, by rw [Int32.toInt_neg]; exact ai_nm_ok (by omega) (by omega)⟩, hS⟩)
    · cases h
  · split at h
    · next y x r =>
      cases h
      match st, hS with
      | _ :: _ :: st', ⟨⟨v, rfl, a1, a2⟩, ⟨u, rfl, b1, b2⟩, hS⟩ => exact lv_ishr hx hb hd (kk _ ⟨⟨_, rfl, ai_tI_ok _⟩, hS⟩)
      | [_], hS => exact hS.2.elim
    · cases h
  · split at h
    · next x r =>
      cases h
      match st, hS with
      | _ :: st', ⟨⟨v, rfl, a1, a2⟩, hS⟩ => exact lv_i2b hx hb hd rfl (kk _ ⟨⟨_, rfl, ai_tI_ok _⟩, hS⟩)
    · cases h
  · split at h
    · next x r =>
      cases h
      match st, hS with
      | _ :: st', ⟨⟨v, rfl, a1, a2⟩, hS⟩ => exact lv_i2l hx hb hd rfl (kk _ ⟨⟨_, rfl, by rw [Int32.toInt_toInt64]; exact ⟨a1, a2⟩⟩, hS⟩)
    · cases h
  · split at h
    · next y x r =>
      cases h
      match st, hS with
      | _ :: _ :: st', ⟨⟨v, rfl, a1, a2⟩, ⟨u, rfl, b1, b2⟩, hS⟩ => exact lv_land hx hb hd (kk _ ⟨⟨_, rfl, ai_tL_ok _⟩, hS⟩)
      | [_], hS => exact hS.2.elim
    · cases h
  · split at h
    · next y x r =>
      cases h
      match st, hS with
      | _ :: _ :: st', ⟨⟨v, rfl, a1, a2⟩, ⟨u, rfl, b1, b2⟩, hS⟩ => exact lv_lor hx hb hd (kk _ ⟨⟨_, rfl, ai_tL_ok _⟩, hS⟩)
      | [_], hS => exact hS.2.elim
    · cases h
  · split at h
    · next y x r =>
      cases h
      match st, hS with
      | _ :: _ :: st', ⟨⟨v, rfl, a1, a2⟩, ⟨u, rfl, b1, b2⟩, hS⟩ => exact lv_lshl hx hb hd rfl (kk _ ⟨⟨_, rfl, ai_tL_ok _⟩, hS⟩)
      | [_], hS => exact hS.2.elim
    · cases h
  · split at h
    · next y x r =>
      cases h
      match st, hS with
      | _ :: _ :: st', ⟨⟨v, rfl, a1, a2⟩, ⟨u, rfl, b1, b2⟩, hS⟩ => exact W.lcmp hx hb hd (kk _ ⟨⟨_, rfl, ai_lcmp_ok b1 b2 a1 a2⟩, hS⟩)
      | [_], hS => exact hS.2.elim
    · cases h
  · cases h
/-- branches: where to, none: on -/
def ai_ceq (x y : Int × Int) : Option Bool := bif ai_le x.2 y.1 && ai_le y.2 x.1 then some true else bif ai_lt x.2 y.1 || ai_lt y.2 x.1 then some false else none
def ai_clt (x y : Int × Int) : Option Bool := bif ai_lt x.2 y.1 then some true else bif ai_le y.2 x.1 then some false else none
def ai_cmp (k : ClassFile.Cond) (x y : Int × Int) : Option Bool := match k with
  | .eq => ai_ceq x y
  | .ne => (ai_ceq x y).map (fun t => !t)
  | .lt => ai_clt x y
  | .ge => (ai_clt x y).map (fun t => !t)
  | .gt => ai_clt y x
  | .le => (ai_clt y x).map (fun t => !t)
theorem ai_ceq_ok {x y : Int × Int} {t : Bool} {u v : Int32} (h : ai_ceq x y = some t) (h1 : x.1 ≤ u.toInt) (h2 : u.toInt ≤ x.2) (h3 : y.1 ≤ v.toInt) (h4 : v.toInt ≤ y.2) : (u = v) ↔ t = true := by
  rw [← Int32.toInt_inj]
  unfold ai_ceq at h
  cases hc : (ai_le x.2 y.1 && ai_le y.2 x.1) with
  | true =>
    rw [hc] at h
    cases h
    rw [Bool.and_eq_true, ai_le_iff, ai_le_iff] at hc
    exact ⟨fun _ => rfl, fun _ => by omega⟩
  | false =>
    rw [hc] at h
    simp only [cond_false] at h
    obtain ⟨hc, h⟩ := ai_bif h
    cases h
    rw [Bool.or_eq_true, ai_lt_iff, ai_lt_iff] at hc
    exact ⟨fun q => by omega, fun q => by cases q⟩
theorem ai_clt_ok {x y : Int × Int} {t : Bool} {u v : Int32} (h : ai_clt x y = some t) (h1 : x.1 ≤ u.toInt) (h2 : u.toInt ≤ x.2) (h3 : y.1 ≤ v.toInt) (h4 : v.toInt ≤ y.2) : (u < v) ↔ t = true := by
  rw [Int32.lt_iff_toInt_lt]
  unfold ai_clt at h
  cases hc : (ai_lt x.2 y.1) with
  | true =>
    rw [hc] at h
    cases h
    rw [ai_lt_iff] at hc
    exact ⟨fun _ => rfl, fun _ => by omega⟩
  | false =>
    rw [hc] at h
    simp only [cond_false] at h
    obtain ⟨hc, h⟩ := ai_bif h
    cases h
    rw [ai_le_iff] at hc
    exact ⟨fun q => by omega, fun q => by cases q⟩
theorem ai_nle {u v : Int32} : (v ≤ u) ↔ ¬ (u < v) := by
  rw [Int32.le_iff_toInt_le, Int32.lt_iff_toInt_lt]
  omega
theorem ai_mapn {o : Option Bool} {t : Bool} (h : o.map (fun t => !t) = some t) : o = some (!t) := by
  cases o with
  | none => cases h
  | some u =>
    have := Option.some.inj h
    rw [← this, Bool.not_not]
def ai_gJ (pc : Nat) (ins : Instr) (a : Nat) (S : List ai_V) : Option (Option Nat × List ai_V) := match ins with
  | .goto _ => some (some a, S)
  | .ifCond k _ => (match S with
    | .inr (.inl x) :: r => (match ai_cmp k x (0, 0) with
      | some t => some (bif t then some a else none, r)
      | none => none)
    | _ => none)
  | .if_icmp k _ => (match S with
    | .inr (.inl y) :: .inr (.inl x) :: r => (match ai_cmp k x y with
      | some t => some (bif t then some a else none, r)
      | none => none)
    | _ => none)
  | .ifnull _ => (match S with
    | .inl none :: r => some (some a, r)
    | .inl (some _) :: r => some (none, r)
    | _ => none)
  | .ifnonnull _ => (match S with
    | .inl none :: r => some (none, r)
    | .inl (some _) :: r => some (some a, r)
    | _ => none)
  | .tableswitch d lo hi offs => (match S with
    | .inr (.inl x) :: r => bif ai_lt x.2 lo || ai_lt hi x.1 then some (some (Int.toNat (pc + d)), r) else bif ai_le x.2 x.1 && (ai_le lo x.1 && ai_le x.1 hi) then (match offs[(x.1 - lo).toNat]? with
      | some o => some (some (Int.toNat (pc + o)), r)
      | none => none) else none
    | _ => none)
  | _ => none
/-- what is to be known of a branch: its target -/
def ai_tg (pc : Nat) (ins : Instr) (a : Nat) : Prop := match ins with
  | .goto o | .ifCond _ o | .if_icmp _ o | .ifnull o | .ifnonnull o => (pc : Int) + o = (a : Int)
  | .tableswitch d _ _ offs => 0 ≤ (pc : Int) + d ∧ ∀ o ∈ offs.toList, 0 ≤ (pc : Int) + o
  | _ => True
theorem ai_gJ_ok (hx : p.tables.exec = Jvm.exec) (hb : c.code = cc) {ins : Instr} {len a : Nat} (hd : decode cc pc = .ok (ins, len)) (hlen : ai_len ins = len ∨ ∃ d lo hi offs, ins = .tableswitch d lo hi offs) (ht : ai_tg pc ins a) {o : Option Nat} (h : ai_gJ pc ins a S = some (o, S')) (hS : ai_RS b ad S st)
    (kk : ∀ st' : List Value, ai_RS b ad S' st' → W p l e R s m args below meth c H locs cells slots Q (F0 m (o.getD (pc + 3)) ls st')) : W p l e R s m args below meth c H locs cells slots Q (F0 m pc ls st) := by
  unfold ai_gJ at h
  split at h
  · next off =>
    cases h
    have e : len = 3 := by rcases hlen with q | ⟨_, _, _, _, q⟩; exact q.symm; cases q
    subst e
    exact lv_goto hx hb hd ht (kk _ hS)
  · next k off =>
    have e : len = 3 := by rcases hlen with q | ⟨_, _, _, _, q⟩; exact q.symm; cases q
    subst e
    split at h
    · next x r =>
      split at h
      · next t hq =>
        cases h
        match st, hS with
        | _ :: st', ⟨⟨v, rfl, a1, a2⟩, hS⟩ =>
          have z1 : ((0 : Int), (0 : Int)).1 ≤ (0 : Int32).toInt := Int.le_refl _
          have z2 : (0 : Int32).toInt ≤ ((0 : Int), (0 : Int)).2 := Int.le_refl _
          have kt : t = true → W p l e R s m args below meth c H locs cells slots Q (F0 m a ls st') := fun q => by subst q; exact kk _ hS
          have kf : t = false → W p l e R s m args below meth c H locs cells slots Q (F0 m (pc + 3) ls st') := fun q => by subst q; exact kk _ hS
          cases k with
          | eq =>
            have g := ai_ceq_ok hq a1 a2 z1 z2
            exact lv_if_eq hx hb hd ht (fun q => kt (g.mp q)) (fun q => kf (Bool.eq_false_iff.mpr (fun y => q (g.mpr y))))
          | ne =>
            have g := ai_ceq_ok (ai_mapn hq) a1 a2 z1 z2
            exact lv_if_ne hx hb hd ht (fun q => kt (by cases t with | true => rfl | false => exact absurd (g.mpr rfl) q)) (fun q => kf (by cases t with | false => rfl | true => exact absurd (g.mp q) (by decide)))
          | lt =>
            have g := ai_clt_ok hq a1 a2 z1 z2
            exact lv_if_lt hx hb hd ht (fun q => kt (g.mp q)) (fun q => kf (Bool.eq_false_iff.mpr (fun y => q (g.mpr y))))
          | ge =>
            have g := ai_clt_ok (ai_mapn hq) a1 a2 z1 z2
            exact lv_if_ge hx hb hd ht (fun q => kt (by cases t with | true => rfl | false => exact absurd (g.mpr rfl) (ai_nle.mp q))) (fun q => kf (by cases t with | false => rfl | true => exact absurd (ai_nle.mpr (fun y => absurd (g.mp y) (by decide))) q))
          | gt =>
            have g := ai_clt_ok hq z1 z2 a1 a2
            exact lv_if_gt hx hb hd ht (fun q => kt (g.mp q)) (fun q => kf (Bool.eq_false_iff.mpr (fun y => q (g.mpr y))))
          | le =>
            have g := ai_clt_ok (ai_mapn hq) z1 z2 a1 a2
            exact lv_if_le hx hb hd ht (fun q => kt (by cases t with | true => rfl | false => exact absurd (g.mpr rfl) (ai_nle.mp q))) (fun q => kf (by cases t with | false => rfl | true => exact absurd (ai_nle.mpr (fun y => absurd (g.mp y) (by decide))) q))
      · cases h
    · cases h
  · next k off =>
    have e : len = 3 := by rcases hlen with q | ⟨_, _, _, _, q⟩; exact q.symm; cases q
    subst e
    split at h
    · next y x r =>
      split at h
      · next t hq =>
        cases h
        match st, hS with
        | _ :: _ :: st', ⟨⟨v, rfl, z1, z2⟩, ⟨u, rfl, a1, a2⟩, hS⟩ =>
          have kt : t = true → W p l e R s m args below meth c H locs cells slots Q (F0 m a ls st') := fun q => by subst q; exact kk _ hS
          have kf : t = false → W p l e R s m args below meth c H locs cells slots Q (F0 m (pc + 3) ls st') := fun q => by subst q; exact kk _ hS
          cases k with
          | eq =>
            have g := ai_ceq_ok hq a1 a2 z1 z2
            exact lv_icmp_eq hx hb hd ht (fun q => kt (g.mp q)) (fun q => kf (Bool.eq_false_iff.mpr (fun y => q (g.mpr y))))
          | ne =>
            have g := ai_ceq_ok (ai_mapn hq) a1 a2 z1 z2
            exact lv_icmp_ne hx hb hd ht (fun q => kt (by cases t with | true => rfl | false => exact absurd (g.mpr rfl) q)) (fun q => kf (by cases t with | false => rfl | true => exact absurd (g.mp q) (by decide)))
          | lt =>
            have g := ai_clt_ok hq a1 a2 z1 z2
            exact lv_icmp_lt hx hb hd ht (fun q => kt (g.mp q)) (fun q => kf (Bool.eq_false_iff.mpr (fun y => q (g.mpr y))))
          | ge =>
            have g := ai_clt_ok (ai_mapn hq) a1 a2 z1 z2
            exact lv_icmp_ge hx hb hd ht (fun q => kt (by cases t with | true => rfl | false => exact absurd (g.mpr rfl) (ai_nle.mp q))) (fun q => kf (by cases t with | false => rfl | true => exact absurd (ai_nle.mpr (fun y => absurd (g.mp y) (by decide))) q))
          | gt =>
            have g := ai_clt_ok hq z1 z2 a1 a2
            exact lv_icmp_gt hx hb hd ht (fun q => kt (g.mp q)) (fun q => kf (Bool.eq_false_iff.mpr (fun y => q (g.mpr y))))
          | le =>
            have g := ai_clt_ok (ai_mapn hq) z1 z2 a1 a2
            exact lv_icmp_le hx hb hd ht (fun q => kt (by cases t with | true => rfl | false => exact absurd (g.mpr rfl) (ai_nle.mp q))) (fun q => kf (by cases t with | false => rfl | true => exact absurd (ai_nle.mpr (fun y => absurd (g.mp y) (by decide))) q))
        | [_], hS => exact hS.2.elim
      · cases h
    · cases h
  · next off =>
    have e : len = 3 := by rcases hlen with q | ⟨_, _, _, _, q⟩; exact q.symm; cases q
    subst e
    split at h
    · next r =>
      cases h
      match st, hS with
      | _ :: st', ⟨v, hS⟩ => cases v; exact lv_ifnullN hx hb hd ht (kk _ hS)
    · next k r =>
      cases h
      match st, hS with
      | _ :: st', ⟨v, hS⟩ =>
        obtain ⟨a, rfl⟩ := ai_RV.rsm v
        exact lv_ifnull hx hb hd (kk _ hS)
    · cases h
  · next off =>
    have e : len = 3 := by rcases hlen with q | ⟨_, _, _, _, q⟩; exact q.symm; cases q
    subst e
    split at h
    · next r =>
      cases h
      match st, hS with
      | _ :: st', ⟨v, hS⟩ => cases v; exact lv_ifnonnullN hx hb hd (kk _ hS)
    · next k r =>
      cases h
      match st, hS with
      | _ :: st', ⟨v, hS⟩ =>
        obtain ⟨a, rfl⟩ := ai_RV.rsm v
        exact lv_ifnonnull hx hb hd ht (kk _ hS)
    · cases h
  · next d lo hi offs =>
    split at h
    · next x r =>
      match st, hS with
      | _ :: st', ⟨⟨v, rfl, a1, a2⟩, hS⟩ =>
        cases hc : (ai_lt x.2 lo || ai_lt hi x.1) with
        | true =>
          rw [hc] at h
          cases h
          rw [Bool.or_eq_true, ai_lt_iff, ai_lt_iff] at hc
          exact lv_tableOut hx hb hd (by omega) (by have := ht.1; show (pc : Int) + d = ((Int.toNat (pc + d) : Nat) : Int); omega) (kk _ hS)
        | false =>
          rw [hc] at h
          simp only [cond_false] at h
          cases hc2 : (ai_le x.2 x.1 && (ai_le lo x.1 && ai_le x.1 hi)) with
          | false => rw [hc2] at h; cases h
          | true =>
            rw [hc2] at h
            simp only [cond_true] at h
            rw [Bool.and_eq_true, Bool.and_eq_true, ai_le_iff, ai_le_iff, ai_le_iff] at hc2
            have ev : v.toInt = x.1 := by omega
            split at h
            · next off ho =>
              cases h
              have hm : off ∈ offs.toList := by
                rw [← Array.getElem?_toList] at ho
                exact List.mem_of_getElem? ho
              exact lv_tableIn hx hb hd (by omega) (by omega) (by rw [ev]; exact ho) (by have := ht.2 _ hm; show (pc : Int) + off = ((Int.toNat (pc + off) : Nat) : Int); omega) (kk _ hS)
            · cases h
    · cases h
  · cases h
end AIG
