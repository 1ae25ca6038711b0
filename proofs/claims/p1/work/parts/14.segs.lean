/-! ===== a stretch of a run without jumps; runs over all cases ===== -/
def ai_sg (mt : List ai_M) (f : Nat) (scr : List ai_V) (d : Nat) (M : ai_M) : List ai_E → ai_Ls → List ai_V → ai_W → Nat → Nat → Option (ai_Ls × List ai_V × ai_W × Nat × Nat)
  | [], L, S, w, c, s => some (L, S, w, c, s)
  | (pc0, g, ins, len, a, b, z) :: cd', L, S, w, c, s => match g with
      | 0 => (match ai_gL ins (ai_ml M) z L S with
        | some (L', S') => ai_sg mt f scr d M cd' L' S' w c s
        | none => none)
      | 1 => (match ai_gI ins S with
        | some S' => ai_sg mt f scr d M cd' L S' w c s
        | none => none)
      | 2 => (match ai_gJ pc0 ins a S with
        | some (none, S') => (match len with
          | 3 => ai_sg mt f scr d M cd' L S' w c s
          | _ => none)
        | _ => none)
      | 3 => (match ai_gH (ai_ii M) (ai_oc M) scr ins a b S w with
        | some (S', w', dc, ds) => ai_sg mt f scr d M cd' L S' w' (c + dc) (s + ds)
        | none => none)
      | 4 => (match mt[a]?, d with
        | some N, d' + 1 => bif Nat.ble (ai_cs (S.drop (ai_na N))) 8 && (Nat.ble (ai_na N) S.length && (Nat.ble (ai_cs (S.take (ai_na N)).reverse) (ai_ml N) && ai_rv (S.take (ai_na N)).reverse b w (ai_oc N))) then
          (match ai_ex mt f [] d' N (ai_cd N) 0 (ai_lv0 0 (S.take (ai_na N)).reverse) [] w 0 0 with
          | some (r, w', mc, ms) => ai_sg mt f scr d M cd' L (r.toList ++ S.drop (ai_na N)) w' (c + mc) (s + ms)
          | none => none) else none
        | _, _ => none)
      | _ => none
def ai_ch : Nat → List ai_E → Nat → Bool
  | pc, [], pe => Nat.beq pc pe
  | pc, x :: r, pe => Nat.beq x.1 pc && ai_ch (pc + x.2.2.2.1) r pe
set_option maxHeartbeats 1000000 in
theorem ai_sg_ok (l : Launch) (mt : List ai_M) (hmt : ∀ N ∈ mt, ai_NK mt N) (f : Nat) (scr : List ai_V) (d : Nat) (M : ai_M) : ∀ (cd : List ai_E) (pc : Nat) (L : ai_Ls) (S : List ai_V) (w : ai_W) (c0 s0 : Nat) (L' : ai_Ls) (S' : List ai_V) (w' : ai_W) (C Z pe : Nat),
    ai_sg mt f scr d M cd L S w c0 s0 = some (L', S', w', C, Z) → ai_ch pc cd pe = true → (∀ x ∈ cd, ai_EK mt M x) → c0 ≤ C ∧ s0 ≤ Z ∧
      ∀ (p : Program) (e : Env) (R : Room) (s : State) (m : MethodId) (args : Array Value) (below : List Frame) (meth : Method) (c : Code) (H : Heap) (locs : List Loc) (Q : State → Prop) (D : va_G) (A : Nat → Prop) (H0 : Heap) (bs : Nat) (ad : List Nat) (ls : Array Slot) (st : List Value),
      ai_FX p R s m args meth c M d C Z A H0 bs scr → ai_RW D s A bs ad w H → va_S A H0 H locs → ai_RL bs ad (ai_ml M) L ls → ai_RS bs ad S st →
      (∀ (H1 : Heap) (locs1 : List Loc) (ad' : List Nat) (ls' : Array Slot) (st' : List Value), (∃ t, ad' = ad ++ t) → ai_RW D s A bs ad' w' H1 → va_S A H0 H1 locs1 → ai_RL bs ad' (ai_ml M) L' ls' → ai_RS bs ad' S' st' → W p l e R s m args below meth c H1 locs1 C Z Q (F0 m pe ls' st')) →
      W p l e R s m args below meth c H locs c0 s0 Q (F0 m pc ls st) := by
  intro cd
  induction cd with
  | nil =>
    intro pc L S w c0 s0 L' S' w' C Z pe h hch _
    cases h
    have := Nat.eq_of_beq_eq_true hch
    subst this
    exact ⟨Nat.le_refl _, Nat.le_refl _, fun p e R s m args below meth c H locs Q D A H0 bs ad ls st hF hW hV hL hS kk => kk H locs ad ls st ⟨[], (List.append_nil _).symm⟩ hW hV hL hS⟩
  | cons x cd' IH =>
    intro pc L S w c0 s0 L' S' w' C Z pe h hch hEK
    obtain ⟨pc0, g, ins, len, a, b, z⟩ := x
    have hch2 : (Nat.beq pc0 pc && ai_ch (pc + len) cd' pe) = true := hch
    clear hch
    rw [Bool.and_eq_true] at hch2
    obtain ⟨hpc, hch⟩ := hch2
    have hpc2 := Nat.eq_of_beq_eq_true hpc
    clear hpc
    subst hpc2
    have hx := hEK _ List.mem_cons_self
    have hsub' : ∀ x ∈ cd', ai_EK mt M x := fun x hx => hEK x (List.mem_cons_of_mem _ hx)
    obtain ⟨hdec, hx⟩ := hx
    dsimp only at hdec hx
    unfold ai_sg at h
    split at h
    · split at h
      · next L1 S1 hg =>
        have ih := IH _ _ _ _ _ _ _ _ _ _ _ _ h hch hsub'
        obtain ⟨hl, hx1, hx2⟩ := hx
        refine ⟨ih.1, ih.2.1, ?_⟩
        intro p e R s m args below meth c H locs Q D A H0 bs ad ls st hF hW hV hL hS kk
        obtain ⟨g1, g2, g3, g4, g5, g6, g7⟩ := id hF
        exact ai_gL_ok g1 g2 g4 (by rw [hl]; exact hdec) (fun i hi => by obtain ⟨v, h1, h2⟩ := hx1 i hi; exact ⟨v, h1, g5 _ h2⟩) (fun i hi => by obtain ⟨tx, h1⟩ := hx2 i hi; obtain ⟨q, hq⟩ := g6.2.2 _ h1; exact ⟨tx, q, hq⟩) hg hL hS
          (fun ls' st' hL' hS' => by rw [hl]; exact ih.2.2 p e R s m args below meth c H locs Q D A H0 bs ad ls' st' hF hW hV hL' hS' kk)
      · cases h
    · split at h
      · next S1 hg =>
        have ih := IH _ _ _ _ _ _ _ _ _ _ _ _ h hch hsub'
        refine ⟨ih.1, ih.2.1, ?_⟩
        intro p e R s m args below meth c H locs Q D A H0 bs ad ls st hF hW hV hL hS kk
        obtain ⟨g1, g2, g3, g4, g5, g6, g7⟩ := id hF
        exact ai_gI_ok g1 g2 (by rw [hx]; exact hdec) hg hS (fun st' hS' => by rw [hx]; exact ih.2.2 p e R s m args below meth c H locs Q D A H0 bs ad ls st' hF hW hV hL hS' kk)
      · cases h
    · split at h
      · next S1 hg =>
        split at h
        · have ih := IH _ _ _ _ _ _ _ _ _ _ _ _ h hch hsub'
          refine ⟨ih.1, ih.2.1, ?_⟩
          intro p e R s m args below meth c H locs Q D A H0 bs ad ls st hF hW hV hL hS kk
          obtain ⟨g1, g2, g3, g4, g5, g6, g7⟩ := id hF
          exact ai_gJ_ok g1 g2 hdec hx.1 hx.2 hg hS (fun st' hS' => ih.2.2 p e R s m args below meth c H locs Q D A H0 bs ad ls st' hF hW hV hL hS' kk)
        · cases h
      · cases h
    · split at h
      · next S1 w1 dc ds hg =>
        have ih := IH _ _ _ _ _ _ _ _ _ _ _ _ h hch hsub'
        obtain ⟨hl, hf⟩ := hx
        refine ⟨by have := ih.1; omega, by have := ih.2.1; omega, ?_⟩
        intro p e R s m args below meth c H locs Q D A H0 bs ad ls st hF hW hV hL hS kk
        obtain ⟨g1, g2, g3, g4, g5, g6, g7, g8, g9, g10, g11, g12, g13⟩ := id hF
        exact ai_gH_ok g1 g2 g4 g5 g6.1 g7 (fun q hq => cn_cl hq) (by rw [hl]; exact hdec) hf g8 hg hW hV g13 hS (by have := ih.1; omega) (by have := ih.2.1; omega)
          (fun H1 locs1 ad' st' hpre hW1 hV1 hS1 => by
            rw [hl]
            obtain ⟨t, rfl⟩ := hpre
            exact ih.2.2 p e R s m args below meth c H1 locs1 Q D A H0 bs _ ls st' hF hW1 hV1 (hL.mono t) hS1 (fun H1 locs1 ad' ls' st' hpre' => kk H1 locs1 ad' ls' st' (ai_pre_trans ⟨t, rfl⟩ hpre')))
      · cases h
    · split at h
      · next N d' hN =>
        obtain ⟨hc, h⟩ := ai_bif2 h
        rw [Bool.and_eq_true, Bool.and_eq_true, Bool.and_eq_true, Nat.ble_eq, Nat.ble_eq, Nat.ble_eq] at hc
        obtain ⟨hc1, hc2, hc3, hc4⟩ := hc
        split at h
        · next r1 w1 mc ms hin =>
          have hNK := hmt N (List.mem_of_getElem? hN)
          have ih := IH _ _ _ _ _ _ _ _ _ _ _ _ h hch hsub'
          have ihN := ai_ex_ok l mt hmt _ _ _ _ _ _ _ _ _ _ _ _ _ _ _ hin (fun x hx => hx) hNK.2.2.2.2.2.2.2
          obtain ⟨hl, hcf⟩ := hx
          subst hl
          refine ⟨by have := ih.1; omega, by have := ih.2.1; omega, ?_⟩
          intro p e R s m args below meth c H locs Q D A H0 bs ad ls st hF hW hV hL hS kk
          obtain ⟨g1, g2, g3, g4, g5, g6, g7, g8, g9, g10, g11, g12, g13⟩ := id hF
          have hlsz : ls.size = ai_ml M := by obtain ⟨lv, h9, -⟩ := hL; exact h9.1
          have hT := hS.take (ai_na N)
          have hAS := hT.1.rev
          have hlen := hS.len
          refine ai_call g1 g2 g3 g4 g5 g6 hNK (hcf N hN) hdec hAS (by rw [List.length_reverse, List.length_take]; omega) (by rw [List.reverse_reverse, List.take_append_drop]) (by rw [ai_cs_ok hT.2]; exact hc1) hc4 hlsz hW hV g13
            (ai_met hNK hc3 ihN.2.2 D bs ad H.size _ hAS) (by omega) (by omega) (by have := ih.1; omega) (by have := ih.2.1; omega) (fun v H1 locs1 ad' hpre hrr hW1 hV1 => ?_)
          obtain ⟨t, rfl⟩ := hpre
          refine ih.2.2 p e R s m args below meth c H1 locs1 Q D A H0 bs _ ls _ hF hW1 hV1 (hL.mono t) ?_ (fun H1 locs1 ad' ls' st' hpre' => kk H1 locs1 ad' ls' st' (ai_pre_trans ⟨t, rfl⟩ hpre'))
          have hD := hT.2.mono t
          match r1, v, hrr with
          | none, none, _ => exact hD
          | some x, some u, hrr => exact ⟨hrr, hD⟩
        · cases h
      · cases h
    · cases h
/-- cases: for each of n ints a list of stretches that covers all, and what lies behind each -/
def ai_T : Nat → Type
  | 0 => Unit
  | n + 1 => List ((Int × Int) × ai_T n)
def ai_cov : Int → List (Int × Int) → Bool
  | lo, [] => ai_lt 2147483647 lo
  | lo, q :: r => ai_le q.1 lo && ai_cov (q.2 + 1) r
theorem ai_cov_ok : ∀ {l : List (Int × Int)} {lo : Int}, ai_cov lo l = true → ∀ v : Int, lo ≤ v → v ≤ 2147483647 → ∃ q ∈ l, q.1 ≤ v ∧ v ≤ q.2
  | [], lo, h, v, h1, h2 => by
    have h : ai_lt 2147483647 lo = true := h
    rw [ai_lt_iff] at h
    omega
  | q :: r, lo, h, v, h1, h2 => by
    have h : (ai_le q.1 lo && ai_cov (q.2 + 1) r) = true := h
    rw [Bool.and_eq_true, ai_le_iff] at h
    by_cases hq : v ≤ q.2
    · exact ⟨q, List.mem_cons_self, by omega, hq⟩
    · obtain ⟨q', h3, h4⟩ := ai_cov_ok h.2 v (by omega) h2
      exact ⟨q', List.mem_cons_of_mem _ h3, h4⟩
def ai_tr : (n : Nat) → ai_T n → (List (Int × Int) → Bool) → Bool
  | 0, _, f => f []
  | n + 1, t, f => ai_cov (-2147483648) (List.map (fun q : (Int × Int) × ai_T n => q.1) t) && List.all t (fun q : (Int × Int) × ai_T n => ai_tr n q.2 (fun r => f (q.1 :: r)))
def ai_bx : List (Int × Int) → List Int32 → Prop
  | [], [] => True
  | q :: r, x :: xs => (q.1 ≤ x.toInt ∧ x.toInt ≤ q.2) ∧ ai_bx r xs
  | _, _ => False
theorem ai_tr_ok : ∀ (n : Nat) (t : ai_T n) (f : List (Int × Int) → Bool), ai_tr n t f = true → ∀ xs : List Int32, xs.length = n → ∃ bx, ai_bx bx xs ∧ f bx = true
  | 0, _, f, h, [], _ => ⟨[], trivial, h⟩
  | 0, _, f, h, _ :: _, hl => by cases hl
  | n + 1, t, f, h, [], hl => by cases hl
  | n + 1, t, f, h, x :: xs, hl => by
    have h : (ai_cov (-2147483648) (List.map (fun q : (Int × Int) × ai_T n => q.1) t) && List.all t (fun q : (Int × Int) × ai_T n => ai_tr n q.2 (fun r => f (q.1 :: r)))) = true := h
    rw [Bool.and_eq_true] at h
    have hx := ai_tI_ok x
    obtain ⟨q, hq, h1, h2⟩ := ai_cov_ok h.1 x.toInt hx.1 hx.2
    obtain ⟨u, hu, rfl⟩ := List.mem_map.mp hq
    have h3 := List.all_eq_true.mp h.2 u hu
    obtain ⟨bx, h4, h5⟩ := ai_tr_ok n u.2 _ h3 xs (by simpa using hl)
    exact ⟨u.1 :: bx, ⟨⟨h1, h2⟩, h4⟩, h5⟩
def ai_lw (f d : Nat) (M : ai_M) (L : ai_Ls) (w : ai_W) (c s pc : Nat) (mt : List ai_M) (k : Int) (bx : List (Int × Int)) : Bool := match ai_ex mt f (.inr (.inl ai_tI) :: bx.map (fun q => .inr (.inl q))) d M (ai_jm (ai_cd M) pc) pc L [.inr (.inl (k, k))] w c s with
  | some (some (.inr (.inl q)), _, C, Z) => (ai_le q.2 1 && ai_le 1 q.1) && (Nat.ble C 600000 && Nat.ble Z 7302250)
  | _ => false
