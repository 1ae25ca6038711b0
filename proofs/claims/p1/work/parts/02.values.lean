/-! ===== abstract runs: an int or a long is known to lie between two bounds, a cell is known by its place in the world ===== -/
abbrev ai_V : Type := Option Nat ⊕ ((Int × Int) ⊕ (Int × Int))
abbrev ai_C : Type := Nat × List ai_V
abbrev ai_W : Type := List ai_C
abbrev ai_Ls : Type := List (Nat × ai_V)
def ai_le : Int → Int → Bool
  | .ofNat a, .ofNat b => Nat.ble a b
  | .negSucc a, .negSucc b => Nat.ble b a
  | .negSucc _, .ofNat _ => true
  | .ofNat _, .negSucc _ => false
theorem ai_le_iff (a b : Int) : ai_le a b = true ↔ a ≤ b := by
  cases a with
  | ofNat a =>
    cases b with
    | ofNat b =>
      show Nat.ble a b = true ↔ ((a : Nat) : Int) ≤ ((b : Nat) : Int)
      rw [Nat.ble_eq]
      omega
    | negSucc b =>
      show false = true ↔ ((a : Nat) : Int) ≤ Int.negSucc b
      rw [Int.negSucc_eq]
      constructor
      · intro h; cases h
      · intro h; omega
  | negSucc a =>
    cases b with
    | ofNat b =>
      show true = true ↔ Int.negSucc a ≤ ((b : Nat) : Int)
      rw [Int.negSucc_eq]
      constructor
      · intro _; omega
      · intro _; rfl
    | negSucc b =>
      show Nat.ble b a = true ↔ Int.negSucc a ≤ Int.negSucc b
      rw [Nat.ble_eq, Int.negSucc_eq, Int.negSucc_eq]
      omega
def ai_lt (a b : Int) : Bool := !(ai_le b a)
theorem ai_lt_iff (a b : Int) : ai_lt a b = true ↔ a < b := by
  unfold ai_lt
  have h := ai_le_iff b a
  cases hb : ai_le b a with
  | true =>
    have := h.mp hb
    constructor
    · intro q; cases q
    · intro q; omega
  | false =>
    constructor
    · intro _
      by_cases q : b ≤ a
      · rw [h.mpr q] at hb; cases hb
      · omega
    · intro _; rfl
def ai_tI : Int × Int := (-2147483648, 2147483647)
def ai_tL : Int × Int := (-9223372036854775808, 9223372036854775807)
/-- what a computed int lies between, when it may go round -/
def ai_nm (lo hi : Int) : Int × Int :=
  bif ai_le (-2147483648) lo && ai_le hi 2147483647 then (lo, hi) else
  bif ai_le (-2147483648) (lo + 4294967296) && ai_le (hi + 4294967296) 2147483647 then (lo + 4294967296, hi + 4294967296) else
  bif ai_le (-2147483648) (lo - 4294967296) && ai_le (hi - 4294967296) 2147483647 then (lo - 4294967296, hi - 4294967296) else ai_tI
theorem ai_bmod (v : Int) : v.bmod (2 ^ 32) = if v % 4294967296 < 2147483648 then v % 4294967296 else v % 4294967296 - 4294967296 := by
  unfold Int.bmod
  rfl
theorem ai_nm_ok {lo hi v : Int} (h1 : lo ≤ v) (h2 : v ≤ hi) : (ai_nm lo hi).1 ≤ v.bmod (2 ^ 32) ∧ v.bmod (2 ^ 32) ≤ (ai_nm lo hi).2 := by
  rw [ai_bmod]
  unfold ai_nm
  cases h3 : (ai_le (-2147483648) lo && ai_le hi 2147483647) with
  | true =>
    rw [Bool.and_eq_true, ai_le_iff, ai_le_iff] at h3
    simp only [cond_true]
    split <;> omega
  | false =>
    simp only [cond_false]
    cases h4 : (ai_le (-2147483648) (lo + 4294967296) && ai_le (hi + 4294967296) 2147483647) with
    | true =>
      rw [Bool.and_eq_true, ai_le_iff, ai_le_iff] at h4
      simp only [cond_true]
      split <;> omega
    | false =>
      simp only [cond_false]
      cases h5 : (ai_le (-2147483648) (lo - 4294967296) && ai_le (hi - 4294967296) 2147483647) with
      | true =>
        rw [Bool.and_eq_true, ai_le_iff, ai_le_iff] at h5
        simp only [cond_true]
        split <;> omega
      | false =>
        simp only [cond_false]
        show (-2147483648 : Int) ≤ _ ∧ _ ≤ (2147483647 : Int)
        split <;> omega
theorem ai_tI_ok (x : Int32) : ai_tI.1 ≤ x.toInt ∧ x.toInt ≤ ai_tI.2 := by
  have h1 := Int32.le_toInt x
  have h2 := Int32.toInt_lt x
  show (-2147483648 : Int) ≤ _ ∧ _ ≤ (2147483647 : Int)
  omega
theorem ai_tL_ok (x : Int64) : ai_tL.1 ≤ x.toInt ∧ x.toInt ≤ ai_tL.2 := by
  have h1 := Int64.le_toInt x
  have h2 := Int64.toInt_lt x
  show (-9223372036854775808 : Int) ≤ _ ∧ _ ≤ (9223372036854775807 : Int)
  omega
/-- an exact int that is an index -/
def ai_ix (q : Int × Int) : Option Nat := match q.1 with
  | .ofNat n => bif ai_le q.2 (.ofNat n) && Nat.ble n 100000 then some n else none
  | .negSucc _ => none
theorem ai_ix_ok {q : Int × Int} {n : Nat} {x : Int32} (h : ai_ix q = some n) (h1 : q.1 ≤ x.toInt) (h2 : x.toInt ≤ q.2) : x.toInt = (n : Int) ∧ x.toNatClampNeg = n ∧ ¬ x < 0 ∧ n ≤ 100000 := by
  obtain ⟨a, z⟩ := q
  cases a with
  | negSucc a => cases h
  | ofNat a =>
    unfold ai_ix at h
    simp only at h h1 h2
    cases hc : (ai_le z (.ofNat a) && Nat.ble a 100000) with
    | false => rw [hc] at h; cases h
    | true =>
      rw [hc] at h
      have hn : a = n := Option.some.inj h
      subst hn
      rw [Bool.and_eq_true, ai_le_iff, Nat.ble_eq] at hc
      have h1' : (a : Int) ≤ x.toInt := h1
      have h3 : z ≤ (a : Int) := hc.1
      have e : x.toInt = (a : Int) := by omega
      refine ⟨e, ?_, ?_, hc.2⟩
      · show x.toInt.toNat = a
        rw [e]; rfl
      · rw [Int32.lt_iff_toInt_lt, e]
        show ¬ (a : Int) < 0
        omega
theorem ai_in {x : Int32} {n N : Nat} (h : x.toNatClampNeg = n ∧ ¬ x < 0) (hn : n < N) : vp_in x N := by
  unfold vp_in
  rintro (q | q)
  · exact h.2 q
  · omega
/-- a value of the machine, and what is known of it: 0 the script, 1 some cell, k + 2 the world's cell k -/
def ai_RV (b : Nat) (ad : List Nat) : ai_V → Value → Prop
  | .inl none, v => v = .null
  | .inl (some 0), v => v = .ref b
  | .inl (some 1), v => ∃ a : Nat, v = .ref a
  | .inl (some (k + 2)), v => ∃ a : Nat, ad[k]? = some a ∧ v = .ref a
  | .inr (.inl q), v => ∃ x : Int32, v = .int x ∧ q.1 ≤ x.toInt ∧ x.toInt ≤ q.2
  | .inr (.inr q), v => ∃ x : Int64, v = .long x ∧ q.1 ≤ x.toInt ∧ x.toInt ≤ q.2
def ai_RS (b : Nat) (ad : List Nat) : List ai_V → List Value → Prop
  | [], [] => True
  | x :: S, v :: st => ai_RV b ad x v ∧ ai_RS b ad S st
  | _, _ => False
theorem ai_get_pre {ad t : List Nat} {k a : Nat} (h : ad[k]? = some a) : (ad ++ t)[k]? = some a := by
  rw [List.getElem?_append_left (List.getElem?_eq_some_iff.mp h).1]
  exact h
theorem ai_RV.mono {b : Nat} {ad : List Nat} (t : List Nat) {x : ai_V} {v : Value} (h : ai_RV b ad x v) : ai_RV b (ad ++ t) x v := by
  match x, h with
  | .inl none, h => exact h
  | .inl (some 0), h => exact h
  | .inl (some 1), h => exact h
  | .inl (some (k + 2)), h =>
    obtain ⟨a, h1, h2⟩ := h
    exact ⟨a, ai_get_pre h1, h2⟩
  | .inr (.inl q), h => exact h
  | .inr (.inr q), h => exact h
theorem ai_RS.mono {b : Nat} {ad : List Nat} (t : List Nat) : ∀ {S : List ai_V} {st : List Value}, ai_RS b ad S st → ai_RS b (ad ++ t) S st
  | [], [], _ => trivial
  | _ :: _, _ :: _, h => ⟨h.1.mono t, ai_RS.mono t h.2⟩
  | [], _ :: _, h => h.elim
  | _ :: _, [], h => h.elim
theorem ai_RS.get {b : Nat} {ad : List Nat} : ∀ {S : List ai_V} {st : List Value} {j : Nat} {x : ai_V}, ai_RS b ad S st → S[j]? = some x → ∃ v, st[j]? = some v ∧ ai_RV b ad x v
  | [], _, j, x, _, h => by simp at h
  | _ :: _, [], _, _, h, _ => h.elim
  | y :: S, v :: st, 0, x, h, hj => by
    rw [List.getElem?_cons_zero] at hj
    cases hj
    exact ⟨v, rfl, h.1⟩
  | y :: S, v :: st, j + 1, x, h, hj => by
    rw [List.getElem?_cons_succ] at hj
    obtain ⟨u, h1, h2⟩ := ai_RS.get h.2 hj
    exact ⟨u, by rw [List.getElem?_cons_succ]; exact h1, h2⟩
theorem ai_RS.set {b : Nat} {ad : List Nat} : ∀ {S : List ai_V} {st : List Value} (j : Nat) {x : ai_V} {v : Value}, ai_RS b ad S st → ai_RV b ad x v → ai_RS b ad (S.set j x) (st.set j v)
  | [], [], _, _, _, _, _ => trivial
  | [], _ :: _, _, _, _, h, _ => h.elim
  | _ :: _, [], _, _, _, h, _ => h.elim
  | y :: S, u :: st, 0, x, v, h, hx => ⟨hx, h.2⟩
  | y :: S, u :: st, j + 1, x, v, h, hx => ⟨h.1, ai_RS.set j h.2 hx⟩
theorem ai_RS.len {b : Nat} {ad : List Nat} : ∀ {S : List ai_V} {st : List Value}, ai_RS b ad S st → S.length = st.length
  | [], [], _ => rfl
  | [], _ :: _, h => h.elim
  | _ :: _, [], h => h.elim
  | _ :: S, _ :: st, h => congrArg (· + 1) (ai_RS.len h.2)
def ai_cat : ai_V → Nat
  | .inr (.inr _) => 2
  | _ => 1
theorem ai_RV.cat {b : Nat} {ad : List Nat} {x : ai_V} {v : Value} (h : ai_RV b ad x v) : v.category = ai_cat x := by
  match x, h with
  | .inl none, h => cases h; rfl
  | .inl (some 0), h => cases h; rfl
  | .inl (some 1), h => obtain ⟨a, rfl⟩ := h; rfl
  | .inl (some (k + 2)), h => obtain ⟨a, -, rfl⟩ := h; rfl
  | .inr (.inl q), h => obtain ⟨a, rfl, -⟩ := h; rfl
  | .inr (.inr q), h => obtain ⟨a, rfl, -⟩ := h; rfl
/-- locals -/
def ai_RL (b : Nat) (ad : List Nat) (nL : Nat) (L : ai_Ls) (ls : Array Slot) : Prop := ∃ lv : List (Nat × Value), lv_has ls nL lv ∧ ∀ q ∈ L, ∃ v, (q.1, v) ∈ lv ∧ ai_RV b ad q.2 v
theorem ai_RL.mono {b : Nat} {ad : List Nat} (t : List Nat) {nL : Nat} {L : ai_Ls} {ls : Array Slot} (h : ai_RL b ad nL L ls) : ai_RL b (ad ++ t) nL L ls := by
  obtain ⟨lv, h1, h2⟩ := h
  refine ⟨lv, h1, fun q hq => ?_⟩
  obtain ⟨v, h3, h4⟩ := h2 q hq
  exact ⟨v, h3, h4.mono t⟩
def ai_lk : ai_Ls → Nat → Option ai_V
  | [], _ => none
  | q :: r, i => bif Nat.beq q.1 i then some q.2 else ai_lk r i
theorem ai_lk_mem : ∀ {L : ai_Ls} {i : Nat} {x : ai_V}, ai_lk L i = some x → (i, x) ∈ L
  | [], _, _, h => by cases h
  | q :: r, i, x, h => by
    unfold ai_lk at h
    cases hc : Nat.beq q.1 i with
    | true =>
      rw [hc] at h
      cases h
      have := Nat.eq_of_beq_eq_true hc
      subst this
      exact List.mem_cons_self
    | false =>
      rw [hc] at h
      exact List.mem_cons_of_mem _ (ai_lk_mem h)
theorem ai_RL.at {b : Nat} {ad : List Nat} {nL : Nat} {L : ai_Ls} {ls : Array Slot} {i : Nat} {x : ai_V} (h : ai_RL b ad nL L ls) (hi : ai_lk L i = some x) : ∃ v, ls[i]? = some (.val v) ∧ ai_RV b ad x v := by
  obtain ⟨lv, h1, h2⟩ := h
  obtain ⟨v, h3, h4⟩ := h2 _ (ai_lk_mem hi)
  exact ⟨v, h1.2.2 _ h3, h4⟩
def ai_st (L : ai_Ls) (i : Nat) (x : ai_V) : ai_Ls := (i, x) :: L.filter (fun q => !(Nat.beq q.1 i) && !(Nat.beq (q.1 + 1) i && Nat.beq (ai_cat q.2) 2))
theorem ai_beq (a b : Nat) : Nat.beq a b = (a == b) := by
  rw [Bool.eq_iff_iff, Nat.beq_eq]
  simp
theorem ai_RL.st {b : Nat} {ad : List Nat} {nL : Nat} {L : ai_Ls} {lv : List (Nat × Value)} {ls' : Array Slot} {i : Nat} {x : ai_V} {v : Value} (h2 : ∀ q ∈ L, ∃ v, (q.1, v) ∈ lv ∧ ai_RV b ad q.2 v) (hx : ai_RV b ad x v)
    (h1 : lv_has ls' nL ((i, v) :: lv.filter (fun q => !(q.1 == i) && !(q.1 + 1 == i && q.2.category == 2)))) : ai_RL b ad nL (ai_st L i x) ls' := by
  refine ⟨_, h1, fun q hq => ?_⟩
  unfold ai_st at hq
  rcases List.mem_cons.mp hq with rfl | hq
  · exact ⟨v, List.mem_cons_self, hx⟩
  · obtain ⟨hq1, hq2⟩ := List.mem_filter.mp hq
    obtain ⟨u, h3, h4⟩ := h2 q hq1
    refine ⟨u, List.mem_cons_of_mem _ (List.mem_filter.mpr ⟨h3, ?_⟩), h4⟩
    simp only [ai_beq] at hq2
    rw [h4.cat]
    exact hq2
def ai_len : Instr → Nat
  | .iload _ | .lload _ | .aload _ | .istore _ | .lstore _ | .astore _ | .bipush _ | .ldc _ | .newarray _ => 2
  | .sipush _ | .ldc2_w _ | .iinc _ _ | .ifCond _ _ | .if_icmp _ _ | .ifnull _ | .ifnonnull _ | .goto _ | .getfield _ | .putfield _ | .new _ | .anewarray _ | .invokevirtual _ | .invokestatic _ | .invokespecial _ => 3
  | .multianewarray _ _ => 4
  | _ => 1
/-- constants, locals, the stack -/
def ai_ldI (L : ai_Ls) (i : Nat) (S : List ai_V) : Option (ai_Ls × List ai_V) := match ai_lk L i with
  | some (.inr (.inl q)) => some (L, .inr (.inl q) :: S)
  | _ => none
def ai_ldL (L : ai_Ls) (i : Nat) (S : List ai_V) : Option (ai_Ls × List ai_V) := match ai_lk L i with
  | some (.inr (.inr q)) => some (L, .inr (.inr q) :: S)
  | _ => none
def ai_ldA (L : ai_Ls) (i : Nat) (S : List ai_V) : Option (ai_Ls × List ai_V) := match ai_lk L i with
  | some (.inl q) => some (L, .inl q :: S)
  | _ => none
def ai_stI (nL : Nat) (L : ai_Ls) (i : Nat) (S : List ai_V) : Option (ai_Ls × List ai_V) := match S with
  | .inr (.inl q) :: r => bif Nat.blt i nL then some (ai_st L i (.inr (.inl q)), r) else none
  | _ => none
def ai_stA (nL : Nat) (L : ai_Ls) (i : Nat) (S : List ai_V) : Option (ai_Ls × List ai_V) := match S with
  | .inl q :: r => bif Nat.blt i nL then some (ai_st L i (.inl q), r) else none
  | _ => none
def ai_gL (ins : Instr) (nL : Nat) (z : Int) (L : ai_Ls) (S : List ai_V) : Option (ai_Ls × List ai_V) := match ins with
  | .iconst n => bif ai_le (-1) n && ai_le n 5 then some (L, .inr (.inl (n, n)) :: S) else none
  | .bipush n => bif ai_le (-128) n && ai_le n 127 then some (L, .inr (.inl (n, n)) :: S) else none
  | .sipush n => bif ai_le (-32768) n && ai_le n 32767 then some (L, .inr (.inl (n, n)) :: S) else none
  | .lconst n => some (L, .inr (.inr (.ofNat n.val, .ofNat n.val)) :: S)
  | .ldc2_w _ => some (L, .inr (.inr (z, z)) :: S)
  | .ldc _ => some (L, .inl (some 1) :: S)
  | .aconst_null => some (L, .inl none :: S)
  | .iload_n k => ai_ldI L k.val S
  | .iload i => ai_ldI L i S
  | .lload_n k => ai_ldL L k.val S
  | .lload i => ai_ldL L i S
  | .aload_n k => ai_ldA L k.val S
  | .aload i => ai_ldA L i S
  | .istore_n k => ai_stI nL L k.val S
  | .istore i => ai_stI nL L i S
  | .astore_n k => ai_stA nL L k.val S
  | .astore i => ai_stA nL L i S
  | .iinc i n => (match ai_lk L i with
    | some (.inr (.inl q)) => bif Nat.blt i nL && (ai_le (-32768) n && ai_le n 32767) then some (ai_st L i (.inr (.inl (ai_nm (q.1 + n) (q.2 + n)))), S) else none
    | _ => none)
  | .dup => (match S with
    | x :: r => bif Nat.beq (ai_cat x) 1 then some (L, x :: x :: r) else none
    | _ => none)
  | .dup2 => (match S with
    | x :: r => bif Nat.beq (ai_cat x) 2 then some (L, x :: x :: r) else (match r with
      | y :: r' => bif Nat.beq (ai_cat x) 1 && Nat.beq (ai_cat y) 1 then some (L, x :: y :: x :: y :: r') else none
      | _ => none)
    | _ => none)
  | .dup_x1 => (match S with
    | x :: y :: r => bif Nat.beq (ai_cat x) 1 && Nat.beq (ai_cat y) 1 then some (L, x :: y :: x :: r) else none
    | _ => none)
  | .pop => (match S with
    | x :: r => bif Nat.beq (ai_cat x) 1 then some (L, r) else none
    | _ => none)
  | _ => none
theorem ai_bif {α : Type} {c : Bool} {x y : α} (h : (bif c then some x else none) = some y) : c = true ∧ x = y := by
  cases c with
  | true => exact ⟨rfl, Option.some.inj h⟩
  | false => cases h
section AIL
variable {p : Program} {l : Launch} {e : Env} {R : Room} {s : State} {m : MethodId} {args : Array Value} {below : List Frame} {meth : Method} {c : Code} {H : Heap} {locs : List Loc} {cells slots : Nat} {Q : State → Prop}
variable {cc : ByteArray} {pc : Nat} {ls : Array Slot} {st : List Value} {b nL : Nat} {ad : List Nat} {L L' : ai_Ls} {S S' : List ai_V}
theorem ai_ldI_ok {i : Nat} (h : ai_ldI L i S = some (L', S')) (hL : ai_RL b ad nL L ls) (hS : ai_RS b ad S st) : ∃ x : Int32, ls[i]? = some (.val (.int x)) ∧ ai_RL b ad nL L' ls ∧ ai_RS b ad S' (.int x :: st) := by
  unfold ai_ldI at h
  split at h
  · next q hq =>
    cases h
    obtain ⟨v, h1, x, rfl, h2⟩ := hL.at hq
    exact ⟨x, h1, hL, ⟨x, rfl, h2⟩, hS⟩
  · cases h
theorem ai_ldL_ok {i : Nat} (h : ai_ldL L i S = some (L', S')) (hL : ai_RL b ad nL L ls) (hS : ai_RS b ad S st) : ∃ x : Int64, ls[i]? = some (.val (.long x)) ∧ ai_RL b ad nL L' ls ∧ ai_RS b ad S' (.long x :: st) := by
  unfold ai_ldL at h
  split at h
  · next q hq =>
    cases h
    obtain ⟨v, h1, x, rfl, h2⟩ := hL.at hq
    exact ⟨x, h1, hL, ⟨x, rfl, h2⟩, hS⟩
  · cases h
theorem ai_RV.ref {q : Option Nat} {v : Value} (h : ai_RV b ad (.inl q) v) : v = .null ∨ ∃ a : Nat, v = .ref a := by
  match q, h with
  | none, h => exact Or.inl h
  | some 0, h => exact Or.inr ⟨_, h⟩
  | some 1, h => exact Or.inr h
  | some (k + 2), h => obtain ⟨a, -, h⟩ := h; exact Or.inr ⟨a, h⟩
theorem ai_ldA_ok {i : Nat} (h : ai_ldA L i S = some (L', S')) (hL : ai_RL b ad nL L ls) (hS : ai_RS b ad S st) : ∃ v : Value, (v = .null ∨ ∃ a : Nat, v = .ref a) ∧ ls[i]? = some (.val v) ∧ ai_RL b ad nL L' ls ∧ ai_RS b ad S' (v :: st) := by
  unfold ai_ldA at h
  split at h
  · next q hq =>
    cases h
    obtain ⟨v, h1, h2⟩ := hL.at hq
    exact ⟨v, h2.ref, h1, hL, h2, hS⟩
  · cases h
theorem ai_stI_ok {i : Nat} (h : ai_stI nL L i S = some (L', S')) (hL : ai_RL b ad nL L ls) (hS : ai_RS b ad S st) : ∃ (x : Int32) (st' : List Value) (lv : List (Nat × Value)), st = .int x :: st' ∧ i < nL ∧ lv_has ls nL lv ∧ ai_RS b ad S' st' ∧ ∀ ls' : Array Slot, lv_has ls' nL ((i, .int x) :: lv.filter (fun q => !(q.1 == i) && !(q.1 + 1 == i && q.2.category == 2))) → ai_RL b ad nL L' ls' := by
  unfold ai_stI at h
  split at h
  · next q r =>
    obtain ⟨h1, h2⟩ := ai_bif h
    cases h2
    match st, hS with
    | v :: st', hS =>
      obtain ⟨x, rfl, hx⟩ := hS.1
      obtain ⟨lv, h3, h4⟩ := hL
      exact ⟨x, st', lv, rfl, by simpa using h1, h3, hS.2, fun ls' h5 => ai_RL.st h4 ⟨x, rfl, hx⟩ h5⟩
  · cases h
theorem ai_stA_ok {i : Nat} (h : ai_stA nL L i S = some (L', S')) (hL : ai_RL b ad nL L ls) (hS : ai_RS b ad S st) : ∃ (v : Value) (st' : List Value) (lv : List (Nat × Value)), (v = .null ∨ ∃ a : Nat, v = .ref a) ∧ st = v :: st' ∧ i < nL ∧ lv_has ls nL lv ∧ ai_RS b ad S' st' ∧ ∀ ls' : Array Slot, lv_has ls' nL ((i, v) :: lv.filter (fun q => !(q.1 == i) && !(q.1 + 1 == i && q.2.category == 2))) → ai_RL b ad nL L' ls' := by
  unfold ai_stA at h
  split at h
  · next q r =>
    obtain ⟨h1, h2⟩ := ai_bif h
    cases h2
    match st, hS with
    | v :: st', hS =>
      obtain ⟨lv, h3, h4⟩ := hL
      exact ⟨v, st', lv, hS.1.ref, rfl, by simpa using h1, h3, hS.2, fun ls' h5 => ai_RL.st h4 hS.1 h5⟩
  · cases h
end AIL
