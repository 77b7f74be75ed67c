/-! ===== fields and arrays ===== -/
theorem qCls_at {ci : Nat} (h : ci < 11) : qCls[ci]? = some ((qCn ci).1, (qCn ci).2.1, (qCn ci).2.2) := by
  have hl : ci < qCls.length := h
  rw [List.getElem?_eq_getElem hl]
  unfold qCn
  rw [List.getD_eq_getElem?_getD, List.getElem?_eq_getElem hl]
  rfl
theorem qU_in {ci : Nat} (h : ci < 11) : ∀ w ∈ u_ws (qCn ci).1 (qCn ci).2.1 (qCn ci).2.2, w ∈ qW := by
  intro w hw
  unfold u_ws at hw
  obtain ⟨s, hs, rfl⟩ := List.mem_map.mp hw
  have h1 := qU_ok ci h
  unfold qOkU at h1
  have h2 := List.all_eq_true.mp h1 s hs
  refine qWordB_in h2 ?_
  unfold u_lay
  split <;> rfl
theorem qT_at {ci s : Nat} (h : ci < 11) (hs : s < (qCn ci).2.2) : qOkT ci s = true ∧ (qT0.2.getD ci []).length = (qCn ci).2.2 := by
  have h1 := qTs_ok ci h
  unfold qOkTs at h1
  simp only [Bool.and_eq_true, Nat.beq_eq] at h1
  exact ⟨List.all_eq_true.mp h1.2 s (List.mem_range.mpr hs), h1.1.symm⟩
theorem qNm_at {ci : Nat} (h : ci < 11) : ∀ a, a < (qCn ci).2.2 → ∀ b, b < (qCn ci).2.2 → a ≠ b → ((qCn ci).2.1 a).2.1 ≠ ((qCn ci).2.1 b).2.1 := by
  intro a ha b hb hab
  have h1 := qNm_ok ci h
  unfold qNmB at h1
  have h2 := List.all_eq_true.mp (List.all_eq_true.mp h1 a (List.mem_range.mpr ha)) b (List.mem_range.mpr hb)
  simp only [Bool.or_eq_true, Nat.beq_eq, Bool.not_eq_true', decide_eq_false_iff_not] at h2
  rcases h2 with h2 | h2
  · exact absurd h2 hab
  · exact h2
theorem qFs_at {ad : qA} {σ : qS} {k : Nat} {n : Int} {fs : List qFT} {s : Nat} (h : s < fs.length) : (qFs ad σ k n fs)[s]? = some (qFV ad σ k n (fs.getD s (9, 0, 0)) s) := by
  simp [qFs, List.getElem?_map, List.getElem?_range h]
theorem qFs_len {ad : qA} {σ : qS} {k : Nat} {n : Int} {fs : List qFT} : (qFs ad σ k n fs).length = fs.length := by simp [qFs]
/-- an object, its place in the world -/
theorem q_obj {cA : Nat → ClassId} {ad : qA} {σ : qS} {objs : List (Nat × Int)} (hO : qOK qT0 σ objs) {k : Nat} {n : Int} (hv : qVa σ k n) : ∃ q0 : Nat, objs[q0]? = some (k, n) ∧ (qWs qT0 cA ad σ objs)[q0]? = some (ad k n, qEnt qT0 cA ad σ k n) := by
  obtain ⟨q0, h⟩ := q_at ((hO.1 k n).mpr hv)
  exact ⟨q0, h, qWs_at h⟩
theorem qEnt_0 {cA : Nat → ClassId} {ad : qA} {σ : qS} {k a : Nat} {n : Int} (h0 : (qKd qT0 k).1 = 0) (h1 : (qKd qT0 k).2.1 = (a : Int)) : qEnt qT0 cA ad σ k n = .inr (a, qFs ad σ k n (qT0.2.getD a [])) := by
  unfold qEnt
  rcases hk : qKd qT0 k with ⟨t, ci, x⟩
  rw [hk] at h0 h1
  simp only at h0 h1
  subst h0; subst h1
  rfl
section QR
variable {d : Nat} {p : Program} {l : Launch} {e : Env} {R : Room} {s : State} {m : MethodId} {args : Array Value} {below : List Frame} {meth : Method} {c : Code} {Q : State → Prop}
variable {D : va_G} {cA : Nat → ClassId} {b : Nat} {A : Nat → Prop} {own : String} {cc : ByteArray} {nL c0 rt : Nat} {z0 : qZ} {ini : Bool} {hh : List (Nat × Nat × Nat × Nat)}
variable {ad : qA} {objs : List (Nat × Int)} {H : Heap} {locs : List Loc} {sl : Array Slot} {cells slots pc : Nat} {ls st : List qV} {σ : qS} {o : qO}
theorem qGet_s {a g k : Nat} {n : Int} {v : qV} (h : qGet qT0 a g k n σ = some v) : (qKd qT0 k).1 = 0 ∧ (qKd qT0 k).2.1 = (a : Int) ∧
    (((qFd qT0 a g).1 = 0 ∧ v = .inl (σ.2 k n g)) ∨ ((qFd qT0 a g).1 = 1 ∧ v = .inl (σ.2 k n g)) ∨ (∃ k' d, qFd qT0 a g = (2, k', d) ∧ σ.1.2.1 k n g = true ∧ v = .inr (.inl (some (k', n + d)))) ∨ (∃ k' d, qFd qT0 a g = (3, k', d) ∧ v = .inr (.inl (qDec k' d.toNat (σ.2 k n g))))) := by
  unfold qGet at h
  split at h
  · rename_i hc
    refine ⟨hc.1, hc.2, ?_⟩
    split at h
    · rename_i hf; cases h; exact Or.inl ⟨by rw [hf], rfl⟩
    · rename_i hf; cases h; exact Or.inr (Or.inl ⟨by rw [hf], rfl⟩)
    · rename_i k' d hf
      split at h
      · rename_i hi; cases h; exact Or.inr (Or.inr (Or.inl ⟨k', d, hf, hi, rfl⟩))
      · cases h
    · rename_i k' d hf; cases h; exact Or.inr (Or.inr (Or.inr ⟨k', d, hf, rfl⟩))
    · cases h
  · cases h
theorem qFV_get {a g k : Nat} {n : Int} {v : qV} (h : qGet qT0 a g k n σ = some v) : qFV ad σ k n (qFd qT0 a g) g = qVl ad b v := by
  obtain ⟨-, -, h⟩ := qGet_s h
  rcases h with ⟨hf, rfl⟩ | ⟨hf, rfl⟩ | ⟨k', d, hf, hi, rfl⟩ | ⟨k', d, hf, rfl⟩
  · rcases hq : qFd qT0 a g with ⟨x, y, z⟩
    rw [hq] at hf; simp only at hf; subst hf; rfl
  · rcases hq : qFd qT0 a g with ⟨x, y, z⟩
    rw [hq] at hf; simp only at hf; subst hf; rfl
  · rw [hf]
    simp only [qFV]
    rw [if_pos hi]
    rfl
  · rw [hf]
    simp only [qFV]
    cases qDec k' d.toNat (σ.2 k n g) with
    | none => rfl
    | some q => rfl
theorem qr_get {a g x lk dd k : Nat} {n : Int} {v : qV} {r : List qV} (hF : qOkF own x a g lk dd = true) (X : qCx d p l R s m args meth c D cA A own cc nL ini hh) (S : qSI D cA b A s nL c0 z0 ad objs H locs sl cells slots ls (.inr (.inl (some (k, n))) :: r) σ) (hdg : decode cc pc = .ok (.getfield x, 3)) (h : qGet qT0 a g k n σ = some v) (hK : qKn p l e R s m args below meth c Q D cA b A own cc nL c0 z0 rt (.inl (pc + 3, ls, v :: r, σ))) :
    W p l e R s m args below meth c H locs cells slots Q (F0 m pc sl (((.inr (.inl (some (k, n))) : qV) :: r).map (qVl ad b))) := by
  obtain ⟨h1, h2⟩ := q_top S.2.2.2.2.2.2.1
  have hva : qVa σ k n := h1
  obtain ⟨ha, hg, hl⟩ := qOkF_spec hF
  obtain ⟨hk0, hk1, hgs⟩ := qGet_s h
  obtain ⟨q0, hq, he⟩ := q_obj (cA := cA) (ad := ad) S.1 hva
  rw [qEnt_0 hk0 hk1] at he
  have hlen := (qT_at ha hg).2
  have hv : (qFs ad σ k n (qT0.2.getD a []))[g]? = some (qVl ad b v) := by
    rw [qFs_at (by rw [hlen]; exact hg), ← qFV_get h]
    rfl
  have hvo : qVo σ v := by
    rcases hgs with ⟨hf, rfl⟩ | ⟨hf, rfl⟩ | ⟨k', d', hf, hi, rfl⟩ | ⟨k', d', hf, rfl⟩
    · exact (S.1.2.1 _ _ _).1 (by rw [hk0]; decide)
    · exact (S.1.2.1 _ _ _).1 (by rw [hk0]; decide)
    · exact S.1.2.2.1 k n g k' d' hva hk0 (by rw [hk1]; exact hf) hi
    · cases hd : qDec k' d'.toNat (σ.2 k n g) with
      | none => trivial
      | some q => exact S.1.2.2.2.1 k n g k' d' hva hk0 (by rw [hk1]; exact hf) q hd
  have K := hK ad objs H locs sl cells slots (S.stk (q_cons hvo h2))
  obtain ⟨hx, hb, hml, hown, hts, -, -, -, -, hks, -⟩ := id X
  rcases hl with ⟨-, hw⟩ | ⟨-, host, hw⟩
  · exact va_get hx hb hts (qU_in ha) hown hks.1 S.2.1 q0 he (qCls_at ha) g hg (hts _ hw) (fun _ h => h) hv hdg K
  · exact va_getN hx hb hts (qU_in ha) hown hks.1 S.2.1 q0 he (qCls_at ha) g hg (hts _ hw) (fun _ h => h) hv hdg K
/-- the state behind a write -/
theorem qSI.mem {st' : List qV} {σ' : qS} {H1 : Heap} {locs1 : List Loc} (S : qSI D cA b A s nL c0 z0 ad objs H locs sl cells slots ls st σ) (h1 : σ'.1.1 = σ.1.1) (h2 : σ'.1.2.2 = σ.1.2.2) (hO : qOK qT0 σ' objs) (hP : va_P D qCls (qWs qT0 cA ad σ' objs) H1) (hD : va_D A (qWs qT0 cA ad σ' objs)) (hS : va_S A s.heap H1 locs1) (h : ∀ v ∈ st', qVo σ v) : qSI D cA b A s nL c0 z0 ad objs H1 locs1 sl cells slots ls st' σ' := by
  have hv : ∀ v, qVo σ v → qVo σ' v := fun v hv => by
    match v, hv with
    | .inl _, hv => exact hv
    | .inr (.inl none), _ => trivial
    | .inr (.inl (some (k, n))), hv =>
      show qVa σ' k n
      unfold qVa
      rw [h1]
      exact hv
    | .inr (.inr (.inl _)), hv => exact hv
    | .inr (.inr (.inr _)), _ => trivial
  exact ⟨hO, hP, hD, hS, S.2.2.2.2.1, fun v q => hv v (S.2.2.2.2.2.1 v q), fun v q => hv v (h v q), by rw [h2]; exact S.2.2.2.2.2.2.2.1, by rw [h2]; exact S.2.2.2.2.2.2.2.2.1, S.2.2.2.2.2.2.2.2.2.tr (fun k => by rw [h1]; exact Int.le_refl _) (fun _ _ _ => rfl)⟩
theorem q_nar {ty : FieldType} {v : Value} (h : (∃ n, ty = .object n) ∨ ∃ t, ty = .array t) (hv : v = .null ∨ ∃ a, v = .ref a) : narrow ty v = v ∧ fits ty v = true := by
  rcases h with ⟨n, rfl⟩ | ⟨t, rfl⟩ <;> rcases hv with rfl | ⟨a, rfl⟩ <;> exact ⟨rfl, rfl⟩
theorem q_put_mode {a g : Nat} (ha : a < 11) (hg : g < (qCn a).2.2) :
    ((qFd qT0 a g).1 = 0 ∧ parseFieldDescriptor ((qCn a).2.1 g).2.2.1 = some .int ∧ ((qCn a).2.1 g).2.2.2 = false) ∨
    ((qFd qT0 a g).1 = 1 ∧ parseFieldDescriptor ((qCn a).2.1 g).2.2.1 = some .boolean ∧ ((qCn a).2.1 g).2.2.2 = false) ∨
    ((qFd qT0 a g).1 = 2 ∧ ((qCn a).2.1 g).2.2.2 = true ∧ ((qCn a).2.1 g).1 = (qCn a).1 ∧ ∃ ty, parseFieldDescriptor ((qCn a).2.1 g).2.2.1 = some ty ∧ ((∃ n, ty = .object n) ∨ ∃ t, ty = .array t)) ∨
    ((qFd qT0 a g).1 = 3 ∧ ((qCn a).2.1 g).2.2.2 = false ∧ ∃ ty, parseFieldDescriptor ((qCn a).2.1 g).2.2.1 = some ty ∧ ((∃ n, ty = .object n) ∨ ∃ t, ty = .array t)) := by
  have h := (qT_at ha hg).1
  unfold qOkT at h
  split at h
  · rename_i hf
    simp only [Bool.and_eq_true, decide_eq_true_eq, Bool.not_eq_true'] at h
    exact Or.inl ⟨by rw [hf], h.1, h.2⟩
  · rename_i hf
    simp only [Bool.and_eq_true, decide_eq_true_eq, Bool.not_eq_true'] at h
    exact Or.inr (Or.inl ⟨by rw [hf], h.1, h.2⟩)
  · rename_i hf
    simp only [Bool.and_eq_true, decide_eq_true_eq] at h
    refine Or.inr (Or.inr (Or.inl ⟨by rw [hf], h.1.1, h.1.2, ?_⟩))
    have h2 := h.2
    split at h2
    · rename_i n hp; exact ⟨_, hp, Or.inl ⟨n, rfl⟩⟩
    · rename_i n hp; exact ⟨_, hp, Or.inr ⟨n, rfl⟩⟩
    · cases h2
  · rename_i hf
    simp only [Bool.and_eq_true, Bool.not_eq_true'] at h
    refine Or.inr (Or.inr (Or.inr ⟨by rw [hf], h.1, ?_⟩))
    have h2 := h.2
    split at h2
    · rename_i n hp; exact ⟨_, hp, Or.inl ⟨n, rfl⟩⟩
    · rename_i n hp; exact ⟨_, hp, Or.inr ⟨n, rfl⟩⟩
    · cases h2
  · cases h
/-- what a putfield writes -/
theorem qPut_s {a g k : Nat} {n : Int} {v : qV} {σ' : qS} (h : qPut qT0 a g k n v σ = some σ') : (qKd qT0 k).1 = 0 ∧ (qKd qT0 k).2.1 = (a : Int) ∧
    ((∃ x, (qFd qT0 a g).1 = 0 ∧ v = .inl x ∧ σ' = qSetI σ k n g x) ∨ (∃ x, (qFd qT0 a g).1 = 1 ∧ v = .inl x ∧ (x = 0 ∨ x = 1) ∧ σ' = qSetI σ k n g x) ∨ (∃ k' d, qFd qT0 a g = (2, k', d) ∧ v = .inr (.inl (some (k', n + d))) ∧ σ' = qSetR σ k n g) ∨
      (∃ k' d x, qFd qT0 a g = (3, k', d) ∧ ∃ q, v = .inr (.inl q) ∧ σ' = qSetI σ k n g x ∧ ((q = none ∧ x = 0) ∨ (∃ n2, q = some (k', n2) ∧ n2 < 1000000 ∧ x = n2 + 1) ∨ (∃ n2, q = some (d.toNat, n2) ∧ n2 < 1000000 ∧ x = -(n2 + 1))))) := by
  unfold qPut at h
  split at h
  · rename_i hc
    refine ⟨hc.1, hc.2, ?_⟩
    split at h
    · rename_i hf; cases h; exact Or.inl ⟨_, by rw [hf], rfl, rfl⟩
    · rename_i hf
      split at h
      · rename_i hx; cases h; exact Or.inr (Or.inl ⟨_, by rw [hf], rfl, hx, rfl⟩)
      · cases h
    · rename_i k' d k2 n2 hf
      split at h
      · rename_i hx
        cases h
        obtain ⟨rfl, rfl⟩ := hx
        exact Or.inr (Or.inr (Or.inl ⟨_, d, hf, rfl, rfl⟩))
      · cases h
    · rename_i k' d hf
      cases h
      exact Or.inr (Or.inr (Or.inr ⟨_, _, 0, hf, none, rfl, rfl, Or.inl ⟨rfl, rfl⟩⟩))
    · rename_i k' d k2 n2 hf
      split at h
      · rename_i hx
        cases h
        obtain ⟨rfl, hx⟩ := hx
        exact Or.inr (Or.inr (Or.inr ⟨_, d, _, hf, _, rfl, rfl, Or.inr (Or.inl ⟨n2, rfl, hx, rfl⟩)⟩))
      · split at h
        · rename_i hx
          cases h
          obtain ⟨rfl, hx⟩ := hx
          exact Or.inr (Or.inr (Or.inr ⟨_, d, _, hf, _, rfl, rfl, Or.inr (Or.inr ⟨n2, rfl, hx, rfl⟩)⟩))
        · cases h
    · cases h
  · cases h
theorem qFs_set {k : Nat} {n : Int} {fs : List qFT} {g : Nat} {σ' : qS} {w : Value} (hg : g < fs.length) (hw : qFV ad σ' k n (fs.getD g (9, 0, 0)) g = w) (ho : ∀ j, j < fs.length → j ≠ g → qFV ad σ' k n (fs.getD j (9, 0, 0)) j = qFV ad σ k n (fs.getD j (9, 0, 0)) j) : qFs ad σ' k n fs = (qFs ad σ k n fs).set g w := by
  apply List.ext_getElem?
  intro j
  by_cases hj : j = g
  · subst hj
    rw [List.getElem?_set_self (by rw [qFs_len]; exact hg), qFs_at hg, hw]
  · rw [List.getElem?_set_ne (Ne.symm hj)]
    by_cases hl : j < fs.length
    · rw [qFs_at hl, qFs_at hl, ho j hl hj]
    · rw [List.getElem?_eq_none (by rw [qFs_len]; omega), List.getElem?_eq_none (by rw [qFs_len]; omega)]
theorem qFV_setI {k j g : Nat} {n x : Int} {f : qFT} (h : j ≠ g) : qFV ad (qSetI σ k n g x) k n f j = qFV ad σ k n f j := by
  rcases f with ⟨t, a, z⟩
  have e : (qSetI σ k n g x).2 k n j = σ.2 k n j := by
    simp only [qSetI, qU]
    rw [if_neg (fun q => h (Int.ofNat_inj.mp q.2.2))]
  match t with
  | 0 => simp only [qFV, e]
  | 1 => simp only [qFV, e]
  | 2 => rfl
  | 3 => simp only [qFV, e]
  | t + 4 => rfl
theorem qFV_setR {k j g : Nat} {n : Int} {f : qFT} (h : j ≠ g) : qFV ad (qSetR σ k n g) k n f j = qFV ad σ k n f j := by
  rcases f with ⟨t, a, z⟩
  have e : (qSetR σ k n g).1.2.1 k n j = σ.1.2.1 k n j := by
    simp only [qSetR, qUB]
    rw [if_neg (fun q => h (Int.ofNat_inj.mp q.2.2))]
  match t with
  | 0 => rfl
  | 1 => rfl
  | 2 => simp only [qFV, e]
  | 3 => rfl
  | t + 4 => rfl
theorem qU_self {f : qM} {k : Nat} {n s x : Int} : qU f k n s x k n s = x := by simp [qU]
theorem qr_put {a g x lk dd k : Nat} {n : Int} {v : qV} {r : List qV} {σ' : qS} (hF : qOkF own x a g lk dd = true) (hfin : ((qCn a).2.1 g).2.2.2 = true → ini = true ∧ lk = 0 ∧ ((qCn a).2.1 g).1 = own) (X : qCx d p l R s m args meth c D cA A own cc nL ini hh) (S : qSI D cA b A s nL c0 z0 ad objs H locs sl cells slots ls (v :: .inr (.inl (some (k, n))) :: r) σ) (hdg : decode cc pc = .ok (.putfield x, 3)) (h : qPut qT0 a g k n v σ = some σ') (hK : qKn p l e R s m args below meth c Q D cA b A own cc nL c0 z0 rt (.inl (pc + 3, ls, r, σ'))) :
    W p l e R s m args below meth c H locs cells slots Q (F0 m pc sl ((v :: (.inr (.inl (some (k, n))) : qV) :: r).map (qVl ad b))) := by
  obtain ⟨hvo, h2⟩ := q_top S.2.2.2.2.2.2.1
  obtain ⟨h1, h3⟩ := q_top h2
  have hva : qVa σ k n := h1
  obtain ⟨ha, hg, hl⟩ := qOkF_spec hF
  obtain ⟨hk0, hk1, hps⟩ := qPut_s h
  obtain ⟨q0, hq, he⟩ := q_obj (cA := cA) (ad := ad) S.1 hva
  rw [qEnt_0 hk0 hk1] at he
  have hlen := (qT_at ha hg).2
  have hgl : g < (qT0.2.getD a []).length := by rw [hlen]; exact hg
  have hkt : (qKd qT0 k).2.1.toNat = a := by rw [hk1]; rfl
  obtain ⟨hx, hb, hml, hown, hts, -, -, hini, -, hks, -⟩ := id X
  -- the write as such
  have key : ∀ (ty : FieldType), parseFieldDescriptor ((qCn a).2.1 g).2.2.1 = some ty → narrow ty (qVl ad b v) = qVl ad b v → fits ty (qVl ad b v) = true →
      qFs ad σ' k n (qT0.2.getD a []) = (qFs ad σ k n (qT0.2.getD a [])).set g (qVl ad b v) → (∀ (k2 : Nat) (n2 : Int), (k2, n2) ∈ objs → ¬ (k2 = k ∧ n2 = n) → qEnt qT0 cA ad σ' k2 n2 = qEnt qT0 cA ad σ k2 n2) → σ'.1.1 = σ.1.1 → σ'.1.2.2 = σ.1.2.2 → qOK qT0 σ' objs →
      W p l e R s m args below meth c H locs cells slots Q (F0 m pc sl ((v :: (.inr (.inl (some (k, n))) : qV) :: r).map (qVl ad b))) := by
    intro ty hty hn hf hset ho e1 e2 hO'
    have hE : qEnt qT0 cA ad σ' k n = .inr (a, (qFs ad σ k n (qT0.2.getD a [])).set g (qVl ad b v)) := by rw [qEnt_0 hk0 hk1, hset]
    have kk : ∀ (H1 : Heap) (locs1 : List Loc), va_P D qCls ((qWs qT0 cA ad σ objs).set q0 (ad k n, .inr (a, (qFs ad σ k n (qT0.2.getD a [])).set g (qVl ad b v)))) H1 → va_D A ((qWs qT0 cA ad σ objs).set q0 (ad k n, .inr (a, (qFs ad σ k n (qT0.2.getD a [])).set g (qVl ad b v)))) → va_S A s.heap H1 locs1 → W p l e R s m args below meth c H1 locs1 cells slots Q (F0 m (pc + 3) sl (r.map (qVl ad b))) := by
      intro H1 locs1 hP hD hS
      rw [qWs_set S.2.2.1 hq hE ho] at hP hD
      exact hK ad objs H1 locs1 sl cells slots (S.mem e1 e2 hO' hP hD hS h3)
    have hpt : ∀ j, j < (qCn a).2.2 → parseFieldDescriptor ((qCn a).2.1 j).2.2.1 = some ((parseFieldDescriptor ((qCn a).2.1 j).2.2.1).getD .int) := by
      intro j hj
      rcases q_put_mode ha hj with ⟨-, h, -⟩ | ⟨-, h, -⟩ | ⟨-, -, -, ty, h, -⟩ | ⟨-, -, ty, h, -⟩ <;> rw [h] <;> rfl
    cases hfi : ((qCn a).2.1 g).2.2.2 with
    | false =>
      rcases hl with ⟨-, hw⟩ | ⟨-, host, hw⟩
      · exact va_put hx hb hts (qU_in ha) _ hpt (qNm_at ha) hown hks.1 S.2.1 S.2.2.1 S.2.2.2.1 q0 he (qCls_at ha) g hg (hts _ hw) (fun _ h => h) hfi hty hn hf (by rw [qFs_len]; exact hgl) hdg kk
      · exact va_putN hx hb hts (qU_in ha) _ hpt (qNm_at ha) hown hks.1 S.2.1 S.2.2.1 S.2.2.2.1 q0 he (qCls_at ha) g hg (hts _ hw) (fun _ h => h) hfi hty hn hf (by rw [qFs_len]; exact hgl) hdg kk
    | true =>
      obtain ⟨hi1, hi2, hi3⟩ := hfin hfi
      rcases hl with ⟨-, hw⟩ | ⟨hl0, -⟩
      · exact va_putF hx hb hts (qU_in ha) _ hpt (qNm_at ha) hown hks.1 S.2.1 S.2.2.1 S.2.2.2.1 q0 he (qCls_at ha) g hg (hts _ hw) (fun _ h => h) hfi (hini hi1) hi3 hty hn hf (by rw [qFs_len]; exact hgl) hdg kk
      · exact absurd hi2 hl0
  rcases hps with ⟨z, hf, rfl, rfl⟩ | ⟨z, hf, rfl, hz, rfl⟩ | ⟨k', d', hf, rfl, rfl⟩ | ⟨k', d', z, hf, q, rfl, rfl, hq3⟩
  · rcases q_put_mode ha hg with ⟨h0, hty, -⟩ | ⟨h0, -⟩ | ⟨h0, -⟩ | ⟨h0, -⟩
    · refine key .int hty rfl rfl (qFs_set hgl ?_ (fun j _ hj => qFV_setI hj)) (fun k2 n2 _ hne => qEnt_setI hne) rfl rfl (qOK_setI S.1 ⟨fun _ => hvo, qi_il hvo⟩ (fun s' k2 d2 _ hff hs q _ => ?_))
      · show qFV ad (qSetI σ k n g z) k n (qFd qT0 a g) g = _
        rcases hq9 : qFd qT0 a g with ⟨x9, y9, z9⟩
        rw [hq9] at hf; simp only at hf; subst hf
        show Value.int (Int32.ofInt (qU σ.2 k n g z k n g)) = _
        rw [qU_self]; rfl
      · rw [hkt] at hff
        have hs2 : s' = g := (Int.ofNat_inj.mp hs).symm
        subst hs2
        rw [hff] at hf; cases hf
    · rw [hf] at h0; cases h0
    · rw [hf] at h0; cases h0
    · rw [hf] at h0; cases h0
  · rcases q_put_mode ha hg with ⟨h0, -⟩ | ⟨h0, hty, -⟩ | ⟨h0, -⟩ | ⟨h0, -⟩
    · rw [hf] at h0; cases h0
    · refine key .boolean hty (by rcases hz with rfl | rfl <;> rfl) (by rcases hz with rfl | rfl <;> rfl) (qFs_set hgl ?_ (fun j _ hj => qFV_setI hj)) (fun k2 n2 _ hne => qEnt_setI hne) rfl rfl (qOK_setI S.1 ⟨fun _ => hvo, qi_il hvo⟩ (fun s' k2 d2 _ hff hs q _ => ?_))
      · show qFV ad (qSetI σ k n g z) k n (qFd qT0 a g) g = _
        rcases hq9 : qFd qT0 a g with ⟨x9, y9, z9⟩
        rw [hq9] at hf; simp only at hf; subst hf
        show Value.int (Int32.ofInt (qU σ.2 k n g z k n g)) = _
        rw [qU_self]; rfl
      · rw [hkt] at hff
        have hs2 : s' = g := (Int.ofNat_inj.mp hs).symm
        subst hs2
        rw [hff] at hf; cases hf
    · rw [hf] at h0; cases h0
    · rw [hf] at h0; cases h0
  · rcases q_put_mode ha hg with ⟨h0, -⟩ | ⟨h0, -⟩ | ⟨h0, -, -, ty, hty, hrt⟩ | ⟨h0, -⟩
    · rw [hf] at h0; cases h0
    · rw [hf] at h0; cases h0
    · obtain ⟨n1, n2⟩ := q_nar (v := qVl ad b (.inr (.inl (some (k', n + d'))))) hrt (Or.inr ⟨_, rfl⟩)
      refine key ty hty n1 n2 (qFs_set hgl ?_ (fun j _ hj => qFV_setR hj)) (fun k2 n2 _ hne => qEnt_setR hne) rfl rfl (qOK_setR S.1 (fun s' k2 d2 _ hff hs => ?_) (fun len k2 p q hk9 => ?_))
      · show qFV ad (qSetR σ k n g) k n (qFd qT0 a g) g = _
        rw [hf]
        show (if qUB σ.1.2.1 k n g k n g = true then _ else _) = _
        rw [if_pos (by simp [qUB])]
        rfl
      · rw [hkt] at hff
        have hs2 : s' = g := (Int.ofNat_inj.mp hs).symm
        subst hs2
        rw [hff] at hf
        cases hf
        exact hvo
      · rw [hk9] at hk0; cases hk0
    · rw [hf] at h0; cases h0
  · rcases q_put_mode ha hg with ⟨h0, -⟩ | ⟨h0, -⟩ | ⟨h0, -⟩ | ⟨h0, -, ty, hty, hrt⟩
    · rw [hf] at h0; cases h0
    · rw [hf] at h0; cases h0
    · rw [hf] at h0; cases h0
    · have hdec : qDec k' d'.toNat z = q ∧ qIn z := by
        rcases hq3 with ⟨rfl, rfl⟩ | ⟨n2, rfl, hn2, rfl⟩ | ⟨n2, rfl, hn2, rfl⟩
        · exact ⟨rfl, by decide, by decide⟩
        · have hn0 : 0 ≤ n2 := (show qVa σ _ n2 from hvo).1
          refine ⟨?_, by omega, by omega⟩
          unfold qDec
          rw [if_neg (by omega), if_pos (by omega)]
          congr 2
          omega
        · have hn0 : 0 ≤ n2 := (show qVa σ _ n2 from hvo).1
          refine ⟨?_, by omega, by omega⟩
          unfold qDec
          rw [if_neg (by omega), if_neg (by omega)]
          congr 2
          omega
      obtain ⟨n1, n2⟩ := q_nar (v := qVl ad b (.inr (.inl q))) hrt (by cases q with
        | none => exact Or.inl rfl
        | some w => exact Or.inr ⟨_, rfl⟩)
      refine key ty hty n1 n2 (qFs_set hgl ?_ (fun j _ hj => qFV_setI hj)) (fun k2 n2 _ hne => qEnt_setI hne) rfl rfl (qOK_setI S.1 ⟨fun _ => hdec.2, qi_il hdec.2⟩ (fun s' k2 d2 _ hff hs w hw => ?_))
      · show qFV ad (qSetI σ k n g z) k n (qFd qT0 a g) g = _
        rw [hf]
        show va_rf ((qDec k' d'.toNat (qU σ.2 k n g z k n g)).map (fun q => ad q.1 q.2)) = _
        rw [qU_self, hdec.1]
        cases q with
        | none => rfl
        | some w => rfl
      · rw [hkt] at hff
        have hs2 : s' = g := (Int.ofNat_inj.mp hs).symm
        subst hs2
        rw [hff] at hf
        cases hf
        rw [hdec.1] at hw
        subst hw
        exact hvo
end QR
