/-! ===== one instruction of an abstract run: fields, arrays, new cells ===== -/
def ai_nt : ArrayType → Nat
  | .int => 10
  | .long => 11
  | .byte => 12
  | .boolean => 13
  | _ => 99
def ai_zv (t : Nat) : ai_V := bif Nat.beq t 11 then .inr (.inr (0, 0)) else bif Nat.blt t 14 then .inr (.inl (0, 0)) else .inl none
def ai_frc {α : Type} (n : Nat) (f : Nat → α) : α := match n with
  | 0 => f 0
  | k + 1 => f (k + 1)
theorem ai_frc_eq {α : Type} (n : Nat) (f : Nat → α) : ai_frc n f = f n := by cases n <;> rfl
def ai_gH (ini : Bool) (oc : Nat) (scr : List ai_V) (ins : Instr) (a b : Nat) (S : List ai_V) (w : ai_W) : Option (List ai_V × ai_W × Nat × Nat) := match ins with
  | .getfield _ => (match S with
    | .inl (some (k + 2)) :: r => (match w[k]? with
      | some ac => bif Nat.beq ac.1 a then (match ac.2[b]? with
        | some v => some (v :: r, w, 0, 0)
        | none => none) else none
      | none => none)
    | _ => none)
  | .putfield _ => (match S with
    | v :: .inl (some (k + 2)) :: r => (match w[k]? with
      | some ac => bif Nat.beq ac.1 a && (ai_okf (ai_tt a b) v && (!(ai_fin a b) || (ini && Nat.beq a oc))) then (match ac.2[b]? with
        | some _ => some (r, w.set k (ac.1, ac.2.set b v), 0, 0)
        | none => none) else none
      | none => none)
    | _ => none)
  | .iaload => (match S with
    | .inr (.inl q) :: .inl (some 0) :: r => (match ai_ix q with
      | some j => (match scr[j]? with
        | some v => some (v :: r, w, 0, 0)
        | none => none)
      | none => none)
    | .inr (.inl q) :: .inl (some (k + 2)) :: r => (match ai_ix q with
      | some j => (match w[k]? with
        | some ac => bif Nat.beq ac.1 10 then (match ac.2[j]? with
          | some v => some (v :: r, w, 0, 0)
          | none => none) else none
        | none => none)
      | none => none)
    | _ => none)
  | .baload => (match S with
    | .inr (.inl q) :: .inl (some (k + 2)) :: r => (match ai_ix q with
      | some j => (match w[k]? with
        | some ac => bif Nat.beq ac.1 12 || Nat.beq ac.1 13 then (match ac.2[j]? with
          | some v => some (v :: r, w, 0, 0)
          | none => none) else none
        | none => none)
      | none => none)
    | _ => none)
  | .laload => (match S with
    | .inr (.inl q) :: .inl (some (k + 2)) :: r => (match ai_ix q with
      | some j => (match w[k]? with
        | some ac => bif Nat.beq ac.1 11 then (match ac.2[j]? with
          | some v => some (v :: r, w, 0, 0)
          | none => none) else none
        | none => none)
      | none => none)
    | _ => none)
  | .aaload => (match S with
    | .inr (.inl q) :: .inl (some (k + 2)) :: r => (match ai_ix q with
      | some j => (match w[k]? with
        | some ac => (match ai_rt ac.1 with
          | some _ => (match ac.2[j]? with
            | some v => some (v :: r, w, 0, 0)
            | none => none)
          | none => none)
        | none => none)
      | none => none)
    | _ => none)
  | .iastore => (match S with
    | .inr (.inl v) :: .inr (.inl q) :: .inl (some (k + 2)) :: r => (match ai_ix q with
      | some j => (match w[k]? with
        | some ac => bif Nat.beq ac.1 10 then (match ac.2[j]? with
          | some _ => some (r, w.set k (ac.1, ac.2.set j (.inr (.inl v))), 0, 0)
          | none => none) else none
        | none => none)
      | none => none)
    | _ => none)
  | .bastore => (match S with
    | .inr (.inl _) :: .inr (.inl q) :: .inl (some (k + 2)) :: r => (match ai_ix q with
      | some j => (match w[k]? with
        | some ac => bif Nat.beq ac.1 12 || Nat.beq ac.1 13 then (match ac.2[j]? with
          | some _ => some (r, w.set k (ac.1, ac.2.set j (.inr (.inl ai_tI))), 0, 0)
          | none => none) else none
        | none => none)
      | none => none)
    | _ => none)
  | .lastore => (match S with
    | .inr (.inr v) :: .inr (.inl q) :: .inl (some (k + 2)) :: r => (match ai_ix q with
      | some j => (match w[k]? with
        | some ac => bif Nat.beq ac.1 11 then (match ac.2[j]? with
          | some _ => some (r, w.set k (ac.1, ac.2.set j (.inr (.inr v))), 0, 0)
          | none => none) else none
        | none => none)
      | none => none)
    | _ => none)
  | .aastore => (match S with
    | .inl (some (kv + 2)) :: .inr (.inl q) :: .inl (some (k + 2)) :: r => (match ai_ix q with
      | some j => (match w[k]? with
        | some ac => (match w[kv]? with
          | some vc => bif (Nat.beq ac.1 14 && Nat.beq vc.1 1) || (Nat.beq ac.1 15 && Nat.beq vc.1 3) then (match ac.2[j]? with
            | some _ => some (r, w.set k (ac.1, ac.2.set j (.inl (some (kv + 2)))), 0, 0)
            | none => none) else none
          | none => none)
        | none => none)
      | none => none)
    | _ => none)
  | .arraylength => (match S with
    | .inl (some 0) :: r => bif Nat.blt 0 scr.length && Nat.ble scr.length 100000 then some (.inr (.inl (.ofNat scr.length, .ofNat scr.length)) :: r, w, 0, 0) else none
    | .inl (some (k + 2)) :: r => (match w[k]? with
      | some ac => bif Nat.ble 10 ac.1 && Nat.ble ac.2.length 100000 then some (.inr (.inl (.ofNat ac.2.length, .ofNat ac.2.length)) :: r, w, 0, 0) else none
      | none => none)
    | _ => none)
  | .newarray ty => (match S with
    | .inr (.inl q) :: r => (match ai_ix q with
      | some n => bif Nat.blt (ai_nt ty) 14 && Nat.ble n 10000 then some (.inl (some (ai_frc w.length (fun z => z + 2))) :: r, w ++ [(ai_nt ty, List.replicate n (ai_zv (ai_nt ty)))], 1, n) else none
      | none => none)
    | _ => none)
  | .anewarray _ => (match S with
    | .inr (.inl q) :: r => (match ai_ix q with
      | some n => bif Nat.ble n 10000 then some (.inl (some (ai_frc w.length (fun z => z + 2))) :: r, w ++ [(a, List.replicate n (.inl none))], 1, n) else none
      | none => none)
    | _ => none)
  | .multianewarray _ _ => (match S with
    | .inr (.inl q2) :: .inr (.inl q) :: r => (match ai_ix q2 with
      | some k => (match ai_ix q with
        | some n => bif Nat.ble n 10000 && (Nat.ble k 10000 && (Nat.beq a 16 || Nat.beq a 17)) then ai_frc w.length (fun z => some (.inl (some (z + 2)) :: r, w ++ ((a, (List.range n).map (fun i => .inl (some (z + 3 + i)))) :: List.replicate n (a - 6, List.replicate k (ai_zv (a - 6)))), 1 + n, n + n * k)) else none
        | none => none)
      | none => none)
    | _ => none)
  | .new _ => some (.inl (some (ai_frc w.length (fun z => z + 2))) :: S, w ++ [(a, (List.range (ai_nf a)).map (fun k => ai_dv (ai_tt a k)))], 1, ai_nf a)
  | _ => none
/-- what an instruction links -/
def ai_hf (own : String) (ins : Instr) (a b : Nat) : Prop := match ins with
  | .getfield i | .putfield i => ∃ (C : String) (T : u_T) (N : Nat), classes[a]? = some (C, T, N) ∧ b < N ∧ Cond.fieldLink own i C (T b).2.1 (T b).2.2.1 ∈ ww_ok
  | .new i => ∃ (C : String) (T : u_T) (N : Nat), classes[a]? = some (C, T, N) ∧ Cond.classLink own i C ∈ ww_ok
  | .anewarray i => (a = 14 ∧ Cond.classLink own i RR_1 ∈ ww_ok) ∨ (a = 15 ∧ Cond.classLink own i RR_3 ∈ ww_ok)
  | .multianewarray i d => d = 2 ∧ ((a = 16 ∧ Cond.classLink own i "[[I" ∈ ww_ok) ∨ (a = 17 ∧ Cond.classLink own i "[[J" ∈ ww_ok))
  | _ => True
/-- the script, where the frame is the law's -/
def ai_SC (scr : List ai_V) (b : Nat) (A : Nat → Prop) (H0 : Heap) (s : State) : Prop := scr = [] ∨ ∃ xs : Nat → Int32, va_X b scr.length xs s H0 ∧ b < H0.size ∧ ¬ A b ∧ ∀ (j : Nat) (x : ai_V), scr[j]? = some x → ai_RV b [] x (.int (xs j))
def ai_AV (U : State) : Prop := va_AO RR_1 U ∧ va_AO RR_3 U ∧ (Cond.arrayOver (.array .int)).before #[] U = true ∧ (Cond.arrayOver (.array .long)).before #[] U = true
section AIH
variable {p : Program} {l : Launch} {e : Env} {R : Room} {s : State} {m : MethodId} {args : Array Value} {below : List Frame} {meth : Method} {c : Code} {H : Heap} {locs : List Loc} {cells slots : Nat} {Q : State → Prop}
variable {cc : ByteArray} {pc : Nat} {ls : Array Slot} {st : List Value} {bs nL : Nat} {ad : List Nat} {S S' : List ai_V} {D : va_G} {A : Nat → Prop} {H0 : Heap} {w w' : ai_W} {dc ds : Nat}
theorem ai_obj {k : Nat} {v : Value} {ws : va_W} {tys : List (ClassId × FieldType)} {ac : ai_C} (hv : ai_RV bs (ws.map Prod.fst) (.inl (some (k + 2))) v) (hR : ∀ (k : Nat) (ac : ai_C), w[k]? = some ac → ∃ q, ws[k]? = some q ∧ ai_RE bs (ws.map Prod.fst) tys ac q.2) (hk : w[k]? = some ac) :
    ∃ (a : Nat) (e : va_E), v = .ref a ∧ ws[k]? = some (a, e) ∧ ai_RE bs (ws.map Prod.fst) tys ac e := by
  obtain ⟨a, h1, rfl⟩ := hv
  obtain ⟨q, h2, h3⟩ := hR k ac hk
  have := ai_adr h1 h2
  exact ⟨a, q.2, rfl, by rw [h2, ← this], h3⟩
theorem ai_same {α : Prop} {ad : List Nat} (h : ∀ ad' : List Nat, (∃ t, ad' = ad ++ t) → ad' = ad → α) : α := h ad ⟨[], (List.append_nil _).symm⟩ rfl
end AIH
