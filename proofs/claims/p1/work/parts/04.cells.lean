/-! ===== the world of an abstract run: tags 0 to 6 the objects of a class, 10 and on the arrays ===== -/
def ai_it : Nat → Option FieldType
  | 10 => some .int
  | 12 => some .byte
  | 13 => some .boolean
  | _ => none
def ai_rt : Nat → Option FieldType
  | 14 => some (.object RR_1)
  | 15 => some (.object RR_3)
  | 16 => some (.array .int)
  | 17 => some (.array .long)
  | _ => none
theorem ai_it_ge {t : Nat} {ty : FieldType} (h : ai_it t = some ty) : 10 ≤ t ∧ t ≠ 11 ∧ ai_rt t = none := by
  unfold ai_it at h
  split at h
  · exact ⟨by decide, by decide, rfl⟩
  · exact ⟨by decide, by decide, rfl⟩
  · exact ⟨by decide, by decide, rfl⟩
  · cases h
theorem ai_rt_ge {t : Nat} {ty : FieldType} (h : ai_rt t = some ty) : 10 ≤ t ∧ t ≠ 11 ∧ ty.isReference = true := by
  unfold ai_rt at h
  split at h <;> first | (cases h; exact ⟨by decide, by decide, rfl⟩) | cases h
def ai_RE (b : Nat) (ad : List Nat) (tys : List (ClassId × FieldType)) (ac : ai_C) (e : va_E) : Prop :=
  (ac.1 < 10 ∧ ∃ fs, e = .inr (ac.1, fs) ∧ ai_RS b ad ac.2 fs) ∨
  (∃ (ty : FieldType) (cA : ClassId) (f : Nat → Int32) (t0 : Nat), ai_it ac.1 = some ty ∧ e = .inl (cA, ac.2.length, .inl f) ∧ tys[t0]? = some (cA, ty) ∧ ∀ (j : Nat) (v : ai_V), ac.2[j]? = some v → ai_RV b ad v (.int (f j))) ∨
  (∃ (cA : ClassId) (f : Nat → Int64) (t0 : Nat), ac.1 = 11 ∧ e = .inl (cA, ac.2.length, .inr (.inl f)) ∧ tys[t0]? = some (cA, .long) ∧ ∀ (j : Nat) (v : ai_V), ac.2[j]? = some v → ai_RV b ad v (.long (f j))) ∨
  (∃ (ty : FieldType) (cA : ClassId) (f : Nat → Option Nat) (t0 : Nat), ai_rt ac.1 = some ty ∧ e = .inl (cA, ac.2.length, .inr (.inr (.inr (.inr f)))) ∧ tys[t0]? = some (cA, ty) ∧ ∀ (j : Nat) (v : ai_V), ac.2[j]? = some v → ai_RV b ad v (va_rf (f j)))
theorem ai_tys_pre {tys tx : List (ClassId × FieldType)} {k : Nat} {a : ClassId × FieldType} (h : tys[k]? = some a) : (tys ++ tx)[k]? = some a := by
  rw [List.getElem?_append_left (List.getElem?_eq_some_iff.mp h).1]
  exact h
theorem ai_RE.mono {b : Nat} {ad : List Nat} (t : List Nat) {tys : List (ClassId × FieldType)} (tx : List (ClassId × FieldType)) {ac : ai_C} {e : va_E} (h : ai_RE b ad tys ac e) : ai_RE b (ad ++ t) (tys ++ tx) ac e := by
  rcases h with ⟨h0, fs, h1, h2⟩ | ⟨ty, cA, f, t0, h0, h1, h2, h3⟩ | ⟨cA, f, t0, h0, h1, h2, h3⟩ | ⟨ty, cA, f, t0, h0, h1, h2, h3⟩
  · exact Or.inl ⟨h0, fs, h1, h2.mono t⟩
  · exact Or.inr (Or.inl ⟨ty, cA, f, t0, h0, h1, ai_tys_pre h2, fun j v hj => (h3 j v hj).mono t⟩)
  · exact Or.inr (Or.inr (Or.inl ⟨cA, f, t0, h0, h1, ai_tys_pre h2, fun j v hj => (h3 j v hj).mono t⟩))
  · exact Or.inr (Or.inr (Or.inr ⟨ty, cA, f, t0, h0, h1, ai_tys_pre h2, fun j v hj => (h3 j v hj).mono t⟩))
theorem ai_RE.obj {b : Nat} {ad : List Nat} {tys : List (ClassId × FieldType)} {ac : ai_C} {e : va_E} (h : ai_RE b ad tys ac e) (hl : ac.1 < 10) : ∃ fs, e = .inr (ac.1, fs) ∧ ai_RS b ad ac.2 fs := by
  rcases h with ⟨h0, h⟩ | ⟨ty, cA, f, t0, h0, h1, h2, h3⟩ | ⟨cA, f, t0, h0, h1, h2, h3⟩ | ⟨ty, cA, f, t0, h0, h1, h2, h3⟩
  · exact h
  · have := (ai_it_ge h0).1; omega
  · omega
  · have := (ai_rt_ge h0).1; omega
theorem ai_RE.ints {b : Nat} {ad : List Nat} {tys : List (ClassId × FieldType)} {ac : ai_C} {e : va_E} {ty : FieldType} (h : ai_RE b ad tys ac e) (hl : ai_it ac.1 = some ty) : ∃ (cA : ClassId) (f : Nat → Int32) (t0 : Nat), e = .inl (cA, ac.2.length, .inl f) ∧ tys[t0]? = some (cA, ty) ∧ ∀ (j : Nat) (v : ai_V), ac.2[j]? = some v → ai_RV b ad v (.int (f j)) := by
  have hg := ai_it_ge hl
  rcases h with ⟨h0, h⟩ | ⟨ty, cA, f, t0, h0, h1, h2, h3⟩ | ⟨cA, f, t0, h0, h1, h2, h3⟩ | ⟨ty, cA, f, t0, h0, h1, h2, h3⟩
  · omega
  · cases hl.symm.trans h0
    exact ⟨cA, f, t0, h1, h2, h3⟩
  · exact absurd h0 hg.2.1
  · rw [hg.2.2] at h0; cases h0
theorem ai_RE.longs {b : Nat} {ad : List Nat} {tys : List (ClassId × FieldType)} {ac : ai_C} {e : va_E} (h : ai_RE b ad tys ac e) (hl : ac.1 = 11) : ∃ (cA : ClassId) (f : Nat → Int64) (t0 : Nat), e = .inl (cA, ac.2.length, .inr (.inl f)) ∧ tys[t0]? = some (cA, .long) ∧ ∀ (j : Nat) (v : ai_V), ac.2[j]? = some v → ai_RV b ad v (.long (f j)) := by
  rcases h with ⟨h0, h⟩ | ⟨ty, cA, f, t0, h0, h1, h2, h3⟩ | ⟨cA, f, t0, h0, h1, h2, h3⟩ | ⟨ty, cA, f, t0, h0, h1, h2, h3⟩
  · omega
  · exact absurd hl (ai_it_ge h0).2.1
  · exact ⟨cA, f, t0, h1, h2, h3⟩
  · exact absurd hl (ai_rt_ge h0).2.1
theorem ai_RE.refs {b : Nat} {ad : List Nat} {tys : List (ClassId × FieldType)} {ac : ai_C} {e : va_E} {ty : FieldType} (h : ai_RE b ad tys ac e) (hl : ai_rt ac.1 = some ty) : ∃ (cA : ClassId) (f : Nat → Option Nat) (t0 : Nat), e = .inl (cA, ac.2.length, .inr (.inr (.inr (.inr f)))) ∧ tys[t0]? = some (cA, ty) ∧ ∀ (j : Nat) (v : ai_V), ac.2[j]? = some v → ai_RV b ad v (va_rf (f j)) := by
  rcases h with ⟨h0, h⟩ | ⟨ty, cA, f, t0, h0, h1, h2, h3⟩ | ⟨cA, f, t0, h0, h1, h2, h3⟩ | ⟨ty, cA, f, t0, h0, h1, h2, h3⟩
  · have := (ai_rt_ge hl).1; omega
  · rw [(ai_it_ge h0).2.2] at hl; cases hl
  · exact absurd h0 (ai_rt_ge hl).2.1
  · cases hl.symm.trans h0
    exact ⟨cA, f, t0, h1, h2, h3⟩
def ai_RW (D : va_G) (U : State) (A : Nat → Prop) (b : Nat) (ad : List Nat) (w : ai_W) (H : Heap) : Prop :=
  ∃ (ws : va_W) (tys : List (ClassId × FieldType)), va_K D classes tys U ∧ va_P D classes ws H ∧ va_D A ws ∧ ad = ws.map Prod.fst ∧ w.length = ws.length ∧ ∀ (k : Nat) (ac : ai_C), w[k]? = some ac → ∃ q, ws[k]? = some q ∧ ai_RE b ad tys ac q.2
theorem ai_adr {ws : va_W} {k a : Nat} {q : Nat × va_E} (h : (ws.map Prod.fst)[k]? = some a) (hq : ws[k]? = some q) : q = (a, q.2) := by
  rw [List.getElem?_map, hq] at h
  have : q.1 = a := Option.some.inj h
  rw [← this]
theorem ai_map_set {ws : va_W} {k a : Nat} {e0 e : va_E} (h : ws[k]? = some (a, e0)) : (ws.set k (a, e)).map Prod.fst = ws.map Prod.fst := by
  apply List.ext_getElem?
  intro i
  rw [List.getElem?_map, List.getElem?_map]
  by_cases hi : i = k
  · subst hi
    rw [List.getElem?_set_self (List.getElem?_eq_some_iff.mp h).1, h]
    rfl
  · rw [List.getElem?_set_ne (Ne.symm hi)]
theorem ai_cell_set {b : Nat} {ad : List Nat} {tys : List (ClassId × FieldType)} {ws : va_W} {w : ai_W} {k a : Nat} {e0 e : va_E} {ac : ai_C} (hk : ws[k]? = some (a, e0)) (hR : ∀ (k : Nat) (ac : ai_C), w[k]? = some ac → ∃ q, ws[k]? = some q ∧ ai_RE b ad tys ac q.2) (he : ai_RE b ad tys ac e) :
    ∀ (j : Nat) (bc : ai_C), (w.set k ac)[j]? = some bc → ∃ q, (ws.set k (a, e))[j]? = some q ∧ ai_RE b ad tys bc q.2 := by
  intro j bc hj
  have hl := (List.getElem?_eq_some_iff.mp hk).1
  by_cases hi : j = k
  · subst hi
    by_cases h2 : j < w.length
    · rw [List.getElem?_set_self h2] at hj
      cases hj
      exact ⟨_, List.getElem?_set_self hl, he⟩
    · rw [List.getElem?_eq_none (by rw [List.length_set]; omega)] at hj
      cases hj
  · rw [List.getElem?_set_ne (Ne.symm hi)] at hj
    rw [List.getElem?_set_ne (Ne.symm hi)]
    exact hR j bc hj
theorem ai_arr_set {b : Nat} {ad : List Nat} {vs : List ai_V} {g : Nat → Value} {i : Nat} {x : ai_V} {y : Value} (h : ∀ (j : Nat) (v : ai_V), vs[j]? = some v → ai_RV b ad v (g j)) (hx : ai_RV b ad x y) : ∀ (j : Nat) (v : ai_V), (vs.set i x)[j]? = some v → ai_RV b ad v (if j = i then y else g j) := by
  intro j v hj
  by_cases hi : j = i
  · subst hi
    rw [if_pos rfl]
    by_cases h2 : j < vs.length
    · rw [List.getElem?_set_self h2] at hj
      cases hj
      exact hx
    · rw [List.getElem?_eq_none (by rw [List.length_set]; omega)] at hj
      cases hj
  · rw [if_neg hi]
    rw [List.getElem?_set_ne (Ne.symm hi)] at hj
    exact h j v hj
theorem ai_cell_push {b : Nat} {ad : List Nat} {tys tx : List (ClassId × FieldType)} {ws wx : va_W} {w : ai_W} {wa : ai_W} (hlen : w.length = ws.length) (had : ad = ws.map Prod.fst) (hR : ∀ (k : Nat) (ac : ai_C), w[k]? = some ac → ∃ q, ws[k]? = some q ∧ ai_RE b ad tys ac q.2)
    (he : ∀ (k : Nat) (ac : ai_C), wa[k]? = some ac → ∃ q, wx[k]? = some q ∧ ai_RE b (ad ++ wx.map Prod.fst) (tys ++ tx) ac q.2) :
    ∀ (j : Nat) (bc : ai_C), (w ++ wa)[j]? = some bc → ∃ q, (ws ++ wx)[j]? = some q ∧ ai_RE b (ad ++ wx.map Prod.fst) (tys ++ tx) bc q.2 := by
  intro j bc hj
  by_cases hl : j < w.length
  · rw [List.getElem?_append_left hl] at hj
    obtain ⟨q, h1, h2⟩ := hR j bc hj
    exact ⟨q, by rw [List.getElem?_append_left (by omega)]; exact h1, h2.mono _ _⟩
  · rw [List.getElem?_append_right (by omega)] at hj
    obtain ⟨q, h1, h2⟩ := he _ bc hj
    exact ⟨q, by rw [List.getElem?_append_right (by omega), ← hlen]; exact h1, h2⟩
/-- the classes' fields -/
def ai_tt (ci k : Nat) : FieldType := match ci with
  | 0 => tt_0 k
  | 1 => tt_1 k
  | 2 => tt_2 k
  | 3 => tt_3 k
  | 4 => tt_4 k
  | 5 => tt_5 k
  | _ => tt_6 k
def ai_nf (ci : Nat) : Nat := match ci with
  | 0 => 13
  | 1 => 17
  | 2 => 15
  | 3 => 5
  | 4 => 6
  | 5 => 17
  | _ => 43
def ai_fin (ci k : Nat) : Bool := match ci with
  | 0 => (FF_0 k).2.2.2
  | 1 => (FF_1 k).2.2.2
  | 2 => (FF_2 k).2.2.2
  | 3 => (FF_3 k).2.2.2
  | 4 => (FF_4 k).2.2.2
  | 5 => (FF_5 k).2.2.2
  | _ => (FF_6 k).2.2.2
def ai_okT : FieldType → Bool
  | .int | .boolean | .long | .object _ | .array _ => true
  | _ => false
def ai_dv : FieldType → ai_V
  | .long => .inr (.inr (0, 0))
  | .object _ | .array _ => .inl none
  | _ => .inr (.inl (0, 0))
theorem ai_dv_ok {b : Nat} {ad : List Nat} {ty : FieldType} (h : ai_okT ty = true) : ai_RV b ad (ai_dv ty) (defaultValue ty) := by
  cases ty <;> first | exact ⟨0, rfl, by decide, by decide⟩ | exact rfl | cases h
def ai_CK (ci : Nat) (C : String) (T : u_T) (N : Nat) : Prop := N = ai_nf ci ∧ (∀ w ∈ u_ws C T N, w ∈ ww_ok) ∧ (∀ k, k < N → parseFieldDescriptor (T k).2.2.1 = some (ai_tt ci k)) ∧ (∀ a, a < N → ∀ b, b < N → a ≠ b → (T a).2.1 ≠ (T b).2.1) ∧ Cond.instantiable C N ∈ ww_ok ∧ Cond.initialized C ∈ ww_ok ∧ (∀ k, k < N → (T k).1 = C) ∧ (∀ k, (T k).2.2.2 = ai_fin ci k) ∧ (∀ k, k < N → ai_okT (ai_tt ci k) = true)
theorem ai_ck {ci : Nat} {q : vw_C} (h : classes[ci]? = some q) : ci < 7 ∧ ai_CK ci q.1 q.2.1 q.2.2 := by
  match ci, h with
  | 0, h => cases h; exact ⟨by decide, rfl, ii_0, tk_0, nn_0, in_0, iz_0, by decide +kernel, fun _ => rfl, by decide +kernel⟩
  | 1, h => cases h; exact ⟨by decide, rfl, ii_1, tk_1, nn_1, in_1, iz_1, by decide +kernel, fun _ => rfl, by decide +kernel⟩
  | 2, h => cases h; exact ⟨by decide, rfl, ii_2, tk_2, nn_2, in_2, iz_2, by decide +kernel, fun _ => rfl, by decide +kernel⟩
  | 3, h => cases h; exact ⟨by decide, rfl, ii_3, tk_3, nn_3, in_3, iz_3, by decide +kernel, fun _ => rfl, by decide +kernel⟩
  | 4, h => cases h; exact ⟨by decide, rfl, ii_4, tk_4, nn_4, in_4, iz_4, by decide +kernel, fun _ => rfl, by decide +kernel⟩
  | 5, h => cases h; exact ⟨by decide, rfl, ii_5, tk_5, nn_5, in_5, iz_5, by decide +kernel, fun _ => rfl, by decide +kernel⟩
  | 6, h => cases h; exact ⟨by decide, rfl, ii_6, tk_6, nn_6, in_6, iz_6, by decide +kernel, fun _ => rfl, by decide +kernel⟩
  | k + 7, h => exact absurd (List.getElem?_eq_some_iff.mp h).1 (by show ¬ k + 7 < 7; omega)
/-- what a field may take -/
def ai_okf (ty : FieldType) (x : ai_V) : Bool := match ty with
  | .int => (match x with
    | .inr (.inl _) => true
    | _ => false)
  | .boolean => (match x with
    | .inr (.inl q) => ai_le 0 q.1 && ai_le q.2 1
    | _ => false)
  | .long => (match x with
    | .inr (.inr _) => true
    | _ => false)
  | .object _ | .array _ => (match x with
    | .inl _ => true
    | _ => false)
  | _ => false
theorem ai_okf_ok {b : Nat} {ad : List Nat} {ty : FieldType} {x : ai_V} {v : Value} (h : ai_okf ty x = true) (hv : ai_RV b ad x v) : narrow ty v = v ∧ fits ty v = true := by
  unfold ai_okf at h
  split at h
  · split at h
    · obtain ⟨y, rfl, -⟩ := hv
      exact ⟨rfl, rfl⟩
    · cases h
  · split at h
    · next q =>
      obtain ⟨y, rfl, h1, h2⟩ := hv
      rw [Bool.and_eq_true, ai_le_iff, ai_le_iff] at h
      have hy : y = 0 ∨ y = 1 := by
        rcases (show y.toInt = 0 ∨ y.toInt = 1 by omega) with q | q
        · exact Or.inl (Int32.toInt_inj.mp q)
        · exact Or.inr (Int32.toInt_inj.mp q)
      rcases hy with rfl | rfl <;> exact ⟨by decide, by decide⟩
    · cases h
  · split at h
    · obtain ⟨y, rfl, -⟩ := hv
      exact ⟨rfl, rfl⟩
    · cases h
  · split at h
    · rcases ai_RV.ref hv with rfl | ⟨a, rfl⟩ <;> exact ⟨rfl, rfl⟩
    · cases h
  · split at h
    · rcases ai_RV.ref hv with rfl | ⟨a, rfl⟩ <;> exact ⟨rfl, rfl⟩
    · cases h
  · cases h
