/-! ===== multianewarray ===== -/
section QR
variable {d : Nat} {p : Program} {l : Launch} {e : Env} {R : Room} {s : State} {m : MethodId} {args : Array Value} {below : List Frame} {meth : Method} {c : Code} {Q : State → Prop}
variable {D : va_G} {cA : Nat → ClassId} {b : Nat} {A : Nat → Prop} {own : String} {cc : ByteArray} {nL c0 rt : Nat} {z0 : qZ} {ini : Bool} {hh : List (Nat × Nat × Nat × Nat)}
variable {ad : qA} {objs : List (Nat × Int)} {H : Heap} {locs : List Loc} {sl : Array Slot} {cells slots pc : Nat} {ls st : List qV} {σ : qS} {o : qO}
theorem qNews_cnt {k w : Nat} : ∀ n : Nat, (qNews σ k w n).1.1 k = σ.1.1 k + n
  | 0 => (Int.add_zero _).symm
  | n + 1 => by
    have e : (qNews σ k w (n + 1)).1.1 k = (qNews σ k w n).1.1 k + 1 := if_pos rfl
    rw [e, qNews_cnt n]
    omega
theorem qNews_o {k w k2 : Nat} (h : k2 ≠ k) : ∀ n : Nat, (qNews σ k w n).1.1 k2 = σ.1.1 k2
  | 0 => rfl
  | n + 1 => by
    have e : (qNews σ k w (n + 1)).1.1 k2 = (qNews σ k w n).1.1 k2 := if_neg h
    rw [e, qNews_o h n]
theorem qNews_cz {k w : Nat} : ∀ n : Nat, (qNews σ k w n).1.2.2.1 = σ.1.2.2.1 + n ∧ (qNews σ k w n).1.2.2.2.1 = σ.1.2.2.2.1 + n * w
  | 0 => ⟨rfl, by simp [qNews]⟩
  | n + 1 => by
    have h := qNews_cz (k := k) (w := w) n
    refine ⟨?_, ?_⟩
    · show (qNews σ k w n).1.2.2.1 + 1 = _
      rw [h.1]; omega
    · show (qNews σ k w n).1.2.2.2.1 + w = _
      rw [h.2, Nat.succ_mul]; omega
theorem qNews_M {k w : Nat} {x z : Int} : ∀ n : Nat, σ.1.1 k ≤ x → x < σ.1.1 k + n → (qNews σ k w n).2 k x z = 0
  | 0, h1, h2 => by omega
  | n + 1, h1, h2 => by
    show (if k = k ∧ x = (qNews σ k w n).1.1 k then 0 else (qNews σ k w n).2 k x z) = 0
    by_cases h : x = (qNews σ k w n).1.1 k
    · rw [if_pos ⟨rfl, h⟩]
    · rw [if_neg (fun q => h q.2)]
      rw [qNews_cnt] at h
      exact qNews_M n h1 (by omega)
theorem qNews_I {k w k2 : Nat} {x z : Int} (h : k2 ≠ k) : ∀ n : Nat, (qNews σ k w n).1.2.1 k2 x z = σ.1.2.1 k2 x z
  | 0 => rfl
  | n + 1 => by
    show (if k2 = k ∧ x = (qNews σ k w n).1.1 k then false else (qNews σ k w n).1.2.1 k2 x z) = _
    rw [if_neg (fun q => h q.1)]
    exact qNews_I h n
def qRw (k : Nat) (x : Int) (n : Nat) : List (Nat × Int) := (List.range n).map (fun i : Nat => (k, x + (i : Int)))
theorem qOK_news {k w : Nat} (hO : qOK qT0 σ objs) (h0 : 0 ≤ σ.1.1 k) : ∀ n : Nat, qOK qT0 (qNews σ k w n) (objs ++ qRw k (σ.1.1 k) n)
  | 0 => by
    show qOK qT0 σ (objs ++ [])
    rw [List.append_nil]; exact hO
  | n + 1 => by
    have h := qOK_new (k := k) (w := w) (qOK_news (w := w) hO h0 n) (by rw [qNews_cnt]; omega)
    rw [qNews_cnt] at h
    have e : objs ++ qRw k (σ.1.1 k) (n + 1) = objs ++ qRw k (σ.1.1 k) n ++ [(k, σ.1.1 k + (n : Int))] := by
      unfold qRw
      rw [List.range_succ, List.map_append, List.append_assoc]
      rfl
    rw [e]
    exact h
theorem qEnt_news {k w : Nat} {k2 : Nat} {n2 : Int} (hv : qVa σ k2 n2) : ∀ n : Nat, qEnt qT0 cA ad (qNews σ k w n) k2 n2 = qEnt qT0 cA ad σ k2 n2
  | 0 => rfl
  | n + 1 => by
    have e := qEnt_new (cA := cA) (ad := ad) (σ := qNews σ k w n) (k := k) (w := w) (k2 := k2) (n2 := n2) (by
      rintro ⟨rfl, q⟩
      rw [qNews_cnt] at q
      have := hv.2
      omega)
    rw [← qEnt_news hv n]
    exact e
theorem qSetRs_s {k : Nat} {n : Int} : ∀ j : Nat, (qSetRs σ k n j).2 = σ.2 ∧ (qSetRs σ k n j).1.1 = σ.1.1 ∧ (qSetRs σ k n j).1.2.2 = σ.1.2.2
  | 0 => ⟨rfl, rfl, rfl⟩
  | j + 1 => qSetRs_s j
theorem qSetRs_I {k : Nat} {n : Int} {i : Nat} : ∀ j : Nat, i < j → (qSetRs σ k n j).1.2.1 k n i = true
  | 0, h => absurd h (Nat.not_lt_zero _)
  | j + 1, h => by
    show (if k = k ∧ n = n ∧ (i : Int) = (j : Int) then true else (qSetRs σ k n j).1.2.1 k n i) = true
    by_cases e : i = j
    · rw [if_pos ⟨rfl, rfl, by rw [e]⟩]
    · rw [if_neg (fun q => e (by omega))]
      exact qSetRs_I j (by omega)
theorem qEnt_setRs {k : Nat} {n : Int} {k2 : Nat} {n2 : Int} (h : ¬ (k2 = k ∧ n2 = n)) : ∀ j : Nat, qEnt qT0 cA ad (qSetRs σ k n j) k2 n2 = qEnt qT0 cA ad σ k2 n2
  | 0 => rfl
  | j + 1 => (qEnt_setR h).trans (qEnt_setRs h j)
theorem qVa_setRs {k : Nat} {n : Int} : ∀ j : Nat, qVa (qSetRs σ k n j) = qVa σ
  | 0 => rfl
  | j + 1 => qVa_setR.trans (qVa_setRs j)
theorem qOK_setRs {k : Nat} {n : Int} {len : Int} {k2 : Nat} {p q : Int} (hO : qOK qT0 σ objs) (hk : qKd qT0 k = (4, len, k2, p, q)) : ∀ j : Nat, (∀ i : Nat, i < j → qVa σ k2 (p + q * n + (i : Int))) → qOK qT0 (qSetRs σ k n j) objs
  | 0, _ => hO
  | j + 1, h => by
    refine qOK_setR (qOK_setRs hO hk j (fun i hi => h i (by omega))) (fun s' k' d hk0 => ?_) (fun len' k' p' q' hk' => ?_)
    · rw [hk] at hk0
      cases hk0
    · rw [hk] at hk'
      cases hk'
      rw [qVa_setRs]
      exact h j (Nat.lt_succ_self j)
def qAddM (ad : qA) (k : Nat) (n : Int) (q : Nat) (k2 : Nat) (n2 : Int) (N : Nat) (r : Nat → Nat) : qA := fun a x => if a = k ∧ x = n then q else if a = k2 ∧ n2 ≤ x ∧ x < n2 + N then r (x - n2).toNat else ad a x
theorem qr_multi {k k2 xi : Nat} {x y pp qq : Int} {r : List qV} (hk : qKd qT0 k = (4, x, k2, pp, qq)) (hx1 : 0 ≤ x) (hx2 : x ≤ 30000) (hy0 : (qKd qT0 k2).1 = 1) (hy : (qKd qT0 k2).2.1 = y) (hy1 : 0 ≤ y) (hy2 : y ≤ 30000) (h7 : qTi k2 = 7) (hne : k ≠ k2) (hpp : pp + qq * σ.1.1 k = σ.1.1 k2) (hw : Cond.classLink own xi "[[I" ∈ qW) (X : qCx d p l R s m args meth c D cA A own cc nL ini hh) (S : qSI D cA b A s nL c0 z0 ad objs H locs sl cells slots ls (.inl y :: .inl x :: r) σ) (hdg : decode cc pc = .ok (.multianewarray xi 2, 4)) (h0 : 0 ≤ σ.1.1 k) (h1 : 0 ≤ σ.1.1 k2) (hR : cells + (1 + x.toNat) ≤ R.cells ∧ slots + (x.toNat + x.toNat * y.toNat) ≤ R.slots) (hK : qKn p l e R s m args below meth c Q D cA b A own cc nL c0 z0 rt (.inl (pc + 4, ls, .inr (.inl (some (k, σ.1.1 k))) :: r, qSetRs (qNews (qNew σ k x.toNat) k2 y.toNat x.toNat) k (σ.1.1 k) x.toNat))) :
    W p l e R s m args below meth c H locs cells slots Q (F0 m pc sl (((.inl y : qV) :: .inl x :: r).map (qVl ad b))) := by
  obtain ⟨g1, g2⟩ := q_top S.2.2.2.2.2.2.1
  obtain ⟨g3, g4⟩ := q_top g2
  obtain ⟨hx, hb, hml, hown, hts, -, -, -, -, hks, -, hA, -⟩ := id X
  have hinx : qIn x := g3
  have hiny : qIn y := g1
  have nx : ¬ Int32.ofInt x < 0 := by
    rw [Int32.lt_iff_toInt_lt, qi_int hinx]
    show ¬ x < 0
    omega
  have ny : ¬ Int32.ofInt y < 0 := by
    rw [Int32.lt_iff_toInt_lt, qi_int hiny]
    show ¬ y < 0
    omega
  have harr : (Cond.arrayClass .int).before args s = true := word_at (State.WarmedH.refl s) (Or.inr ⟨_, rfl⟩) (hks.2.2.2.2.2 0 (by decide))
  have hcy : s.vm.findClass (FieldType.array .int).toString = some (cA 0) := (hks.1.2 0 (cA 0, .int) rfl).2
  have hpl : ∀ f : Nat → va_E, qWs qT0 cA ad σ objs ++ va_pl [] f = qWs qT0 cA ad σ objs := fun f => List.append_nil _
  refine va_mna (X := qWs qT0 cA ad σ objs) (L := []) (f := fun _ => .inl (cA 7, 0, .inl (fun _ => 0))) (ty := .int) (N' := x.toNat) (K' := y.toNat) (z := (y.toNat, .inl (fun _ => 0))) hx hb hown (hts _ hw) hks.2.2.2.2.1 harr hcy hks.1 (by rw [hpl]; exact S.2.1) (by rw [hpl]; exact S.2.2.1) S.2.2.2.1 hA nx ny (qi_nat hinx hx1) (qi_nat hiny hy1) (by omega) (by show y.toNat * 4 ≤ _; omega) (by omega) rfl rfl hR.1 hR.2 (fun _ => arrV_new _ _ _) hdg fun q rr cy H1 hinj _ hK9 hP hD hS => ?_
  -- the class of the outer array
  have hcls : cy = cA 7 := by
    have e1 := (hK9.2 8 (cy, .array .int) rfl).2
    have e2 := (hks.1.2 7 (cA 7, .array .int) rfl).2
    exact Option.some.inj (Eq.trans (Eq.symm e1) e2)
  subst hcls
  -- the new state
  generalize hN : x.toNat = N at *
  generalize hσ1 : qNew σ k N = σ1 at *
  have c1 : σ1.1.1 k2 = σ.1.1 k2 := by subst hσ1; exact if_neg (Ne.symm hne)
  have hO1 : qOK qT0 σ1 (objs ++ [(k, σ.1.1 k)]) := by subst hσ1; exact qOK_new S.1 h0
  have hO2 : qOK qT0 (qNews σ1 k2 y.toNat N) (objs ++ [(k, σ.1.1 k)] ++ qRw k2 (σ.1.1 k2) N) := by
    have h := qOK_news (k := k2) (w := y.toNat) hO1 (by rw [c1]; exact h1) N
    rw [c1] at h
    exact h
  have va2 : ∀ i : Nat, i < N → qVa (qNews σ1 k2 y.toNat N) k2 (σ.1.1 k2 + (i : Int)) := fun i hi => by
    refine ⟨by omega, ?_⟩
    rw [qNews_cnt, c1]
    omega
  have hO3 : qOK qT0 (qSetRs (qNews σ1 k2 y.toNat N) k (σ.1.1 k) N) (objs ++ [(k, σ.1.1 k)] ++ qRw k2 (σ.1.1 k2) N) := qOK_setRs hO2 hk N (fun i hi => by rw [hpp]; exact va2 i hi)
  have hle : qLe σ (qSetRs (qNews σ1 k2 y.toNat N) k (σ.1.1 k) N) := by
    have h2 : qLe σ σ1 := by subst hσ1; exact qNew_le
    exact h2.tr ((qNews_le N).tr (qSetRs_le N))
  have hAg : qAg σ ad (qAddM ad k (σ.1.1 k) q k2 (σ.1.1 k2) N rr) := by
    intro k3 n3 hv
    unfold qAddM
    rw [if_neg, if_neg]
    · rintro ⟨rfl, q1, -⟩
      have := hv.2
      omega
    · rintro ⟨rfl, rfl⟩
      exact absurd hv.2 (by omega)
  have hE2 : ∀ i : Nat, i < N → qAddM ad k (σ.1.1 k) q k2 (σ.1.1 k2) N rr k2 (σ.1.1 k2 + (i : Int)) = rr i := fun i hi => by
    unfold qAddM
    rw [if_neg (fun q => hne q.1.symm), if_pos ⟨rfl, by omega, by omega⟩]
    congr 1
    omega
  have hE1 : qAddM ad k (σ.1.1 k) q k2 (σ.1.1 k2) N rr k (σ.1.1 k) = q := if_pos ⟨rfl, rfl⟩
  have hlenN : (N : Int) = x := by omega
  have hWs : qWs qT0 cA (qAddM ad k (σ.1.1 k) q k2 (σ.1.1 k2) N rr) (qSetRs (qNews σ1 k2 y.toNat N) k (σ.1.1 k) N) (objs ++ [(k, σ.1.1 k)] ++ qRw k2 (σ.1.1 k2) N) = (qWs qT0 cA ad σ objs ++ [(q, .inl (cA 7, N, .inr (.inr (.inr (.inr (fun i => if i < N then some (rr i) else none))))))]) ++ va_pl ([] ++ (List.range N).map rr) (vr_up (fun _ => .inl (cA 7, 0, .inl (fun _ => 0))) ((List.range N).map rr) (.inl (cA 0, (y.toNat, .inl (fun _ => 0))))) := by
    unfold qWs
    rw [List.map_append, List.map_append]
    congr 1
    · congr 1
      · apply List.map_congr_left
        rintro ⟨k3, n3⟩ hq
        have hv : qVa σ k3 n3 := (S.1.1 k3 n3).mp hq
        have hv1 : qVa σ1 k3 n3 := by subst hσ1; exact hv.le qNew_le
        have hn3 : ¬ (k3 = k ∧ n3 = σ.1.1 k) := by
          rintro ⟨rfl, rfl⟩
          exact absurd hv.2 (by omega)
        simp only
        rw [hAg k3 n3 hv, qEnt_setRs hn3, qEnt_news hv1]
        have e3 : qEnt qT0 cA (qAddM ad k (σ.1.1 k) q k2 (σ.1.1 k2) N rr) σ1 k3 n3 = qEnt qT0 cA (qAddM ad k (σ.1.1 k) q k2 (σ.1.1 k2) N rr) σ k3 n3 := by subst hσ1; exact qEnt_new hn3
        rw [e3, ← qEnt_ag S.1 hAg hv]
      · simp only [List.map_cons, List.map_nil]
        rw [hE1, qEnt_4 hk, h7]
        have e4 : qRf (qAddM ad k (σ.1.1 k) q k2 (σ.1.1 k2) N rr) (qSetRs (qNews σ1 k2 y.toNat N) k (σ.1.1 k) N) k (σ.1.1 k) x k2 pp qq = fun i => if i < N then some (rr i) else none := by
          funext i
          unfold qRf
          by_cases hi : i < N
          · rw [if_pos hi, if_pos ⟨by omega, qSetRs_I N hi⟩, hpp, hE2 i hi]
          · rw [if_neg hi, if_neg (fun z => hi (by omega))]
        rw [e4, hN]
    · unfold va_pl qRw
      rw [List.nil_append, List.map_map, List.map_map]
      apply List.map_congr_left
      intro i hi
      have hi2 : i < N := List.mem_range.mp hi
      simp only [Function.comp]
      rw [hE2 i hi2, vr_up_in (List.mem_map.mpr ⟨i, hi, rfl⟩), qEnt_setRs (fun z => hne z.1.symm)]
      rcases hk2 : qKd qT0 k2 with ⟨t, len, u⟩
      rw [hk2] at hy0 hy
      simp only at hy0 hy
      subst hy0
      subst hy
      rw [qEnt_1 hk2]
      have e5 : (fun j : Nat => Int32.ofInt ((qNews σ1 k2 len.toNat N).2 k2 (σ.1.1 k2 + (i : Int)) j)) = fun _ => 0 := by
        funext j
        rw [qNews_M N (by rw [c1]; omega) (by rw [c1]; omega)]
        rfl
      rw [e5]
  have S' : qSI D cA b A s nL c0 z0 (qAddM ad k (σ.1.1 k) q k2 (σ.1.1 k2) N rr) (objs ++ [(k, σ.1.1 k)] ++ qRw k2 (σ.1.1 k2) N) H1 locs sl (cells + 1 + N) (slots + N + N * y.toNat) ls (.inr (.inl (some (k, σ.1.1 k))) :: r) (qSetRs (qNews σ1 k2 y.toNat N) k (σ.1.1 k) N) := by
    refine ⟨hO3, by rw [hWs]; exact hP, by rw [hWs]; exact hD, hS, S.2.2.2.2.1.ag hAg S.2.2.2.2.2.1, fun v hv => (S.2.2.2.2.2.1 v hv).le hle, q_cons (v := .inr (.inl (some (k, σ.1.1 k)))) ?_ (fun v hv => (g4 v hv).le hle), ?_, ?_, S.2.2.2.2.2.2.2.2.2.tr hle.1 hAg⟩
    · exact (hO3.1 k (σ.1.1 k)).mp (List.mem_append_left _ (List.mem_append_right _ List.mem_cons_self))
    · have e6 := (qNews_cz (σ := σ1) (k := k2) (w := y.toNat) N).1
      have e7 : (qSetRs (qNews σ1 k2 y.toNat N) k (σ.1.1 k) N).1.2.2.1 = (qNews σ1 k2 y.toNat N).1.2.2.1 := by rw [(qSetRs_s N).2.2]
      have e8 : σ1.1.2.2.1 = σ.1.2.2.1 + 1 := by subst hσ1; rfl
      have := S.2.2.2.2.2.2.2.1
      omega
    · have e6 := (qNews_cz (σ := σ1) (k := k2) (w := y.toNat) N).2
      have e7 : (qSetRs (qNews σ1 k2 y.toNat N) k (σ.1.1 k) N).1.2.2.2.1 = (qNews σ1 k2 y.toNat N).1.2.2.2.1 := by rw [(qSetRs_s N).2.2]
      have e8 : σ1.1.2.2.2.1 = σ.1.2.2.2.1 + N := by subst hσ1; rfl
      have := S.2.2.2.2.2.2.2.2.1
      omega
  have K := hK _ _ H1 locs sl _ _ S'
  have e : qVl (qAddM ad k (σ.1.1 k) q k2 (σ.1.1 k2) N rr) b (.inr (.inl (some (k, σ.1.1 k)))) = .ref q := by show Value.ref (qAddM ad k (σ.1.1 k) q k2 (σ.1.1 k2) N rr k (σ.1.1 k)) = _; rw [hE1]
  rw [List.map_cons, e, ← qVl_map_ag hAg g4] at K
  exact K
end QR
