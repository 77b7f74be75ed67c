/-! ===== the law's own static 'cell', of the script ===== -/
/-- its contract (by part 23) -/
def qMetC (l : Launch) (d : Nat) : Prop := ∀ (D : va_G) (cA : Nat → ClassId) (ad : qA) (objs : List (Nat × Int)) (σ : qS) (sz b N : Nat) (zs : Nat → Int32) (sc : Int × (Int → Int)) (k : Int), qOK qT0 σ objs → (0 ≤ k ∧ k ≤ 1000) → sc.1 = N → qIn sc.1 → (∀ j : Nat, j < N → sc.2 j = (zs j).toInt) →
  vx_Met l (qMe 150).1 (qCw (qMe 150) :: qW) (qRm d 0 0) (va_Pc [.ref b, .int (Int32.ofInt k)] (fun U => qBf D cA ad objs σ sz U ∧ va_X b N zs U U.heap ∧ b < sz ∧ ¬ va_A (qWs qT0 cA ad σ objs) sz b)) (qQc D cA ad objs σ sz (.inl (some (.inl (qCell sc k)))) σ) (qXC D cA ad objs σ sz (.inl (some (.inl (qCell sc k)))) σ) 0 0 (va_A (qWs qT0 cA ad σ objs) sz)
theorem qCell_blind {D : va_G} {cA : Nat → ClassId} {ad : qA} {objs : List (Nat × Int)} {σ : qS} {sz b N : Nat} {zs : Nat → Int32} {av : List Value} : FrameBlind (va_Pc av (fun U => qBf D cA ad objs σ sz U ∧ va_X b N zs U U.heap ∧ b < sz ∧ ¬ va_A (qWs qT0 cA ad σ objs) sz b)) := by
  intro a U g mk h
  obtain ⟨h1, ⟨h2, h3, h4, h5, h6⟩, h7, h8⟩ := h
  have hW : U.WarmedH (U.calling g mk a).vm := State.WarmedH.refl U
  exact ⟨h1, ⟨h2, h3, h4, qKs.warm hW h5, qZs.moved hW h6⟩, va_X.moved hW.alike h7, h8⟩
section QR
variable {d : Nat} {p : Program} {l : Launch} {e : Env} {R : Room} {s : State} {m : MethodId} {args : Array Value} {below : List Frame} {meth : Method} {c : Code} {Q : State → Prop}
variable {D : va_G} {cA : Nat → ClassId} {b : Nat} {A : Nat → Prop} {own : String} {cc : ByteArray} {nL c0 rt : Nat} {z0 : qZ} {ini : Bool} {hh : List (Nat × Nat × Nat × Nat)}
variable {ad : qA} {objs : List (Nat × Int)} {H : Heap} {locs : List Loc} {sl : Array Slot} {cells slots pc : Nat} {ls st : List qV} {σ : qS} {o : qO}
theorem qr_cell {N x : Nat} {zs : Nat → Int32} {sc : Int × (Int → Int)} {k : Int} {r : List qV} {hs : List qHd} (hX : va_X b N zs s s.heap) (hbl : b < s.heap.size) (hbA : ¬ A b) (hN : sc.1 = N) (hz : qIn sc.1 ∧ ∀ j : Nat, j < N → sc.2 j = (zs j).toInt) (hcell : qMetC l d) (hMt : qOkMt 150 = true) (hw : Cond.methodLink own x (qMe 150).1 ∈ qW) (X : qCx (d + 1) p l R s m args meth c D cA A own cc nL ini hh) (S : qSI D cA b A s nL c0 z0 ad objs H locs sl cells slots ls (.inl k :: .inr (.inr (.inr true)) :: r) σ) (hdg : decode cc pc = .ok (.invokestatic x, 3)) (hk : 0 ≤ k ∧ k ≤ 1000) (hcat : qCat r ≤ 8) (hHd : qHdB own cc hs hh = true) (hjs : ∀ h ∈ hs, h.2.2.2.2 < nL) (hR : cells ≤ R.cells ∧ slots ≤ R.slots) (hK : qKn p l e R s m args below meth c Q D cA b A own cc nL c0 z0 rt (.inl (pc + 3, ls, .inl (qCell sc k) :: r, σ))) :
    W p l e R s m args below meth c H locs cells slots Q (F0 m pc sl (((.inl k : qV) :: .inr (.inr (.inr true)) :: r).map (qVl ad b))) := by
  obtain ⟨hx, hb, hml, hown, hts, hlk, hfl, hinit, htab, hks, hz2, hA, hRf, hRl⟩ := id X
  obtain ⟨w1, w2, w3, w4, w5, w6, w7, w8, w9, w10, w11, w13⟩ := qOkMt_s hMt
  have hst := S.2.2.2.2.2.2.1
  have hrv : ∀ v ∈ r, qVo σ v := fun v hv => hst v (List.mem_cons_of_mem _ (List.mem_cons_of_mem _ hv))
  have S' : qSI D cA b A s nL c0 z0 ad objs H locs sl cells slots ls r σ := S.stk hrv
  have hM := hcell D cA ad objs σ H.size b N zs sc k S.1 hk hN hz.1 hz.2
  have hbf := q_bf X S
  have hpay := qW_warm hts
  have hpay2 : ∀ w ∈ qCw (qMe 150) :: qW, ∀ (a' : Array Value) (U : State), s.WarmedH U.vm → w.before a' U = true := fun w hw => (List.mem_cons.mp hw).elim (fun e9 => by rw [e9]; exact hpay _ w1) (hpay w)
  have hlen : ∀ sig, parseMethodDescriptor (qMe 150).1.desc = some sig → (qMq 150).2.2.2.2.2 = sig.parameters.length := fun sig h9 => by
    rw [h9] at w6
    exact (Option.some.inj w6).symm
  have hrm : (qRm d 0 0).frames + 1 ≤ R.frames ∧ 8 + ((qMe 150).2.2.1 + 11) + (qRm d 0 0).locals ≤ R.locals := by
    show d + 6 + 1 ≤ _ ∧ 8 + ((qMe 150).2.2.1 + 11) + (60 * d + 100) ≤ _
    omega
  have hslz : sl.size = nL := S.2.2.2.2.1.1
  have hCF : CallFix p m c cc nL s args qW own := ⟨hx, hb, hml, hown, hts⟩
  have hind := hts _ w2
  have hC : qCw (qMe 150) = Cond.code (qMe 150).1 (qMe 150).2.1 (qMe 150).2.2.1 (qMe 150).2.2.2.1 := rfl
  have hsum : 2 * (F0 m pc sl (((.inl k : qV) :: .inr (.inr (.inr true)) :: r).map (qVl ad b))).monitorRoom + ((r.map (qVl ad b)).map fun v => v.category).sum ≤ 8 := by
    have h9 := q_catsum (ad := ad) (b := b) (st := r)
    show 2 * 0 + _ ≤ 8
    rw [List.map_map]
    have e9 : ((fun v : Value => v.category) ∘ qVl ad b) = fun v => (qVl ad b v).category := rfl
    rw [e9]
    omega
  have hwst : Cond.static (qMe 150).1 ∈ qW := by
    rcases w3 with ⟨h9, -⟩ | ⟨-, h9⟩ | ⟨h9, -⟩
    · cases h9
    · exact h9
    · cases h9
  have hSb := S.2.2.2.1
  have hHb : H[b]? = s.heap[b]? := hSb.2.1 b hbl hbA
  have hbH : b < H.size := Nat.lt_of_lt_of_le hbl hSb.1
  have hbN : ¬ va_A (qWs qT0 cA ad σ objs) H.size b := fun h => hbA (q_sub hA S b h)
  refine qr_back (a := 0) (g := 0) (as := []) (hs := hs) (r := .inl (some (.inl (qCell sc k)))) (σ1 := σ) (mc := 0) (ms := 0) hHd hjs (fun _ h => (nomatch h)) X S' qLe.rf rfl rfl ?_ rfl hK
  rw [hC] at hM hpay2 w1
  refine vx_runS (As := [.ref b, .int (Int32.ofInt k)]) (n := 2) hCF hM ⟨⟨rfl, rfl, hrm.1, hrm.2, hpay2, List.mem_cons_self, hts _ w1, hind, w5, hlen, hts _ hw⟩, hts _ hwst⟩ ⟨qCell_blind, fun U hU hW => ⟨rfl, hbf U hU hW, va_X.moved hW.alike (by rw [hU]; exact hX.kept hHb), hbH, hbN⟩⟩ rfl rfl hslz ?_ hsum hdg ⟨by omega, by omega⟩
  rfl
end QR
