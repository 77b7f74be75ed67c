/-! ===== the class composes ===== -/
def k_am (M : qM) : Int → Int := fun x => M 5 (1 + x) 8
def k_wm (M : qM) : Int → Int := fun y => M 36 (1 + y / 20) (y % 20)
section
variable {B Bo : pT} {n Lo e' : Int} {Wo : Int → Int} {Ro : c_R} {M N : qM}
theorem z_pp_om (h : z_pp B Bo Wo Ro Lo e' M) : c_om Bo Ro e' M := ⟨h.2.2.2.2.1.2.2.2.1.1, h.2.2.2.2.1.2.2.2.1.2.1, h.2.2.2.2.1.1, h.2.2.2.2.1.2.2.2.2.1⟩
theorem z_pp_old (hB : c_ok B) (h : z_pp B Bo Wo Ro Lo e' M) : ∀ L E, c_oldok B L E Bo Ro := fun L E c c0 c3 => by
  obtain ⟨_, ⟨o1, o2⟩, ⟨ob, B1, R1, out⟩, h3, h4, ⟨r1, r2⟩, h8⟩ := h
  have ok := c_okB o1 out.1 ⟨c0, c3⟩
  have mk := (out.2 c c0 c3).1
  have n10 := (hB.1 c c0 c3).1
  refine ⟨ok, o1.2.2.2.2.2.2.2.1, r1 c c0 c3, fun i i0 i1 i2 ss => ?_, fun q => ⟨(mk.1 q).2.2.1, (mk.1 q).2.1⟩, fun q => (mk.2 q).2.2⟩
  have v := fun w => c_A_v (B := B) (L := L) (E := E) (c := c) (i := i) (w := w) ⟨i0, by omega⟩
  have v' := fun w => c_A_v (B := Bo) (L := r_L Ro) (E := r_E Ro) (c := c) (i := i) (w := w) ⟨i0, by omega⟩
  have e := r2 (10 * c + i) (by omega) (by omega) (by rw [show (10 * c + i) / 10 = c by omega]; omega) ss
  unfold c_sit
  rw [show r_A Bo Ro c = c_A Bo (r_L Ro) (r_E Ro) c from rfl, (v 0).1, (v' 0).1, (v 0).2.2.2.2.2.2, (v' 0).2.2.2.2.2.2]
  refine ⟨e.1.symm, e.2.1.symm, fun w w0 w1 => ?_⟩
  rw [(v w).2.2.2.2.1, (v' w).2.2.2.2.1, (v w).2.2.2.2.2.1, (v' w).2.2.2.2.2.1]
  have := e.2.2 w w0 w1
  exact ⟨this.1.symm, this.2.symm⟩
/-- the class behind a compose -/
theorem z_cl_104 {en : Int} (hz : z_cl n B M) (fr : fr104 en M N) (hen : en = 0 ∨ en = 1) (h8 : N 10 0 8 = en + 1) (h13 : N 10 0 13 = 0 ∨ N 10 0 13 = 1) (st : c_bd N ∧ (c_z 0 N ∧ c_z 1 N) ∧ c_brk B N ∧ c_35 B N) : z_cl n B N := by
  obtain ⟨h0, ⟨hBB, ⟨⟨k1, k2, k3⟩, hms⟩, ⟨l1, l2⟩, hed⟩, ⟨d1, d2⟩, hal, hsr, hbs, _⟩ := hz
  refine ⟨h0, ⟨hBB, ⟨⟨fun c a b => ?_, fun x a b => ?_, fun y a b => ?_⟩, ?_⟩, ⟨fun it i => ?_, fun it => ?_⟩, ⟨en, h8, hen⟩⟩, ⟨?_, fun w a b => ?_⟩, fun t a b => ?_, ⟨?_, fun x a b => ?_⟩, ⟨st.2.1, st.1, st.2.2.1, st.2.2.2⟩, h13⟩
  · rw [fr 1 _ _ (by omega)]; exact k1 c a b
  · rw [fr 5 _ 0 (by omega), fr 5 _ 1 (by omega), fr 5 _ 2 (by omega), fr 5 _ 3 (by omega)]; exact k2 x a b
  · rw [fr 33 _ _ (by omega), fr 34 _ _ (by omega), fr 32 _ _ (by omega)]; exact k3 y a b
  · show N 10 0 10 = _ ∧ N 10 0 11 = _ ∧ N 10 0 12 = _
    rw [fr 10 _ 10 (by omega), fr 10 _ 11 (by omega), fr 10 _ 12 (by omega)]; exact hms
  · rw [fr 32 _ _ (by omega)]; exact l1 it i
  · rw [fr 5 _ 2 (by omega)]; exact l2 it
  · rw [fr 5 _ 2 (by omega)]; exact d1
  · rw [fr 5 _ 2 (by omega)] at b
    rw [fr 32 _ _ (by omega), fr 33 _ _ (by omega), fr 34 _ _ (by omega)]; exact d2 w a b
  · rw [fr 63 _ _ (by omega)]; exact hal t a b
  · rw [fr 10 _ 14 (by omega)]; exact hsr.1
  · rw [fr 10 _ 14 (by omega)]; exact hsr.2 x a b
theorem z_pp_104 {en : Int} (h : z_pp B Bo Wo Ro Lo e' M) (fr : fr104 en M N) (hen : en = 0 ∨ en = 1) (hne : M 10 0 9 = 0 ∨ en ≠ e') : z_pp B Bo Wo Ro Lo e' N := by
  obtain ⟨q1, q2, q3, q4, q5, q6, q7⟩ := h
  have e2 := q1.2
  have ne : e' ≠ en := by omega
  refine ⟨⟨by rw [fr 10 _ 9 (by omega)]; exact q1.1, q1.2⟩, q2, q3, q4, c_edn_fr q5 (fun k c s c0 c1 q => fr k _ s ?_) (fun k c s c0 c1 q => fr k _ s ?_) (fun k s q => fr k _ s ?_), q6, fun x a b c => by rw [fr 10 _ 14 (by omega)]; exact q7 x a b c⟩
  · rcases hen with z | z <;> rcases e2 with z2 | z2 <;> omega
  · rcases hen with z | z <;> rcases e2 with z2 | z2 <;> omega
  · omega
variable {d : Nat} {h : qH} {b : Int} {F : Int → qH → qM → Prop}
theorem C159 (hS : qSe h) (hz : z_cl n B M) (hpr : M 10 0 9 = 0 ∨ z_pp B Bo Wo Ro Lo e' M) (HX : b ≠ 0 → M 10 0 9 = 0 → F (-7300) (lBh h) M)
    (H1 : ¬ (b ≠ 0 ∧ M 10 0 9 = 0) → ∀ M' en W R res set' cnt L, fr104 en M M' → z_cl n B M' → z_x B en W R L M' → M' 10 0 13 = 1 → (M 10 0 9 = 0 ∨ z_pp B Bo Wo Ro Lo e' M') → c_comp B (b ≠ 0) Bo Ro (c_p0 B) (k_am M) (k_wm M) W R res set' cnt → c_brkW B W M' → M' 2 0 10 = set' → M' 2 0 9 = cnt → F res h M')
    (H0 : ¬ (b ≠ 0 ∧ M 10 0 9 = 0) → ∀ M' en W, fr104 en M M' → z_cl n B M' → M' 10 0 13 = 0 → (M 10 0 9 = 0 ∨ z_pp B Bo Wo Ro Lo e' M') → c_ncomp B (b ≠ 0) Bo Ro (c_p0 B) W → c_brkW B W M' → F (-1) h M') : e159 (d + 9) h b M F := by
  obtain ⟨h0, ⟨⟨hB, hB2⟩, ⟨hbk, hms⟩, hlm, ⟨e0, he0⟩⟩, hdr, hal, hsr, ⟨hz01, hst⟩, h13⟩ := id hz
  have pp' : ∀ M' en, fr104 en M M' → (en = 0 ∨ en = 1) → (M 10 0 9 = 0 ∨ en ≠ e') → (M 10 0 9 = 0 ∨ z_pp B Bo Wo Ro Lo e' M') := fun M' en fr hen hne => by
    rcases hpr with z | z
    · exact Or.inl z
    · exact Or.inr (z_pp_104 z fr hen hne)
  refine W159 (t104 hS (Bo := Bo) (Ro := Ro) (e0 := e0) (e' := e') (at' := k_am M) (wd := k_wm M) hB hB2 hbk hms he0 hz01 hst hlm (fun x x0 x1 t t1 => ⟨rfl, fun j j0 j1 => ?_⟩) ?_ (fun z1 z2 => l_g1 (HX z1 z2)) (fun no M' en W R res set' cnt L fr hen hne h8 h13' st comp edn now bw s10 s9 => ?_) (fun no M' en W fr hen hne h8 h13' st ncomp bw => H0 no M' en W fr (z_cl_104 hz fr hen h8 (Or.inl h13') st) h13' (pp' M' en fr hen hne) ncomp bw))
  · have := hB.2.1 x
    show M 36 (1 + x) j = M 36 (1 + (20 * x + j) / 20) ((20 * x + j) % 20)
    rw [show (20 * x + j) / 20 = x by omega, show (20 * x + j) % 20 = j by omega]
  · rcases hpr with z | z
    · exact Or.inl z
    · exact Or.inr ⟨z.1.1, z.1.2, z_pp_om z, z_pp_old hB z⟩
  · have out := c_comp_out comp
    have cw := c_words hB
    have n27 : ∀ t, 0 ≤ t → t < 10 → 0 ≤ M' 27 0 t ∧ M' 27 0 t ≤ 200 := fun t a b => by
      have x := (now.2.2.2.1 t a b).1
      have l : p_sum (fun y => if c_K B y = 4 then (1 : Int) else 0) 600 ≤ p_sum (fun y => @ite Int (c_there B y) (Classical.propDecidable _) 1 0) 600 := p_sum_le2 (by decide) (fun k a b => by
        by_cases q : c_K B k = 4
        · rw [if_pos q, if_pos (c_K_there (by omega))]; exact Int.le_refl _
        · rw [if_neg q]; split <;> omega)
      omega
    have lb : 0 ≤ x_L (M' 27 0) (M' 63 0) ∧ x_L (M' 27 0) (M' 63 0) ≤ 1000 := x_L_b (al := M' 63 0) n27 10 (by decide) (by decide)
    exact H1 no M' en W R res set' cnt L fr (z_cl_104 hz fr hen h8 (Or.inr h13') st) ⟨h8, by rw [now.2.2.2.2.2.2.2]; exact lb, ⟨_, _, _, out.1⟩, edn, now, by rw [s10]; exact out.2.2.2, st.2.2.2, st.2.2.1⟩ h13' (pp' M' en fr hen hne) comp bw s10 s9
/-- what the class' compose would bring is so -/
theorem v159 (hS : qSe h) (hz : z_cl n B M) (hpr : M 10 0 9 = 0 ∨ z_pp B Bo Wo Ro Lo e' M) (no : ¬ (b ≠ 0 ∧ M 10 0 9 = 0)) : (∃ W R res set' cnt, c_comp B (b ≠ 0) Bo Ro (c_p0 B) (k_am M) (k_wm M) W R res set' cnt) ∨ ∃ W, c_ncomp B (b ≠ 0) Bo Ro (c_p0 B) W := by
  have a := C159 (d := 0) (F := fun _ _ _ => (∃ W R res set' cnt, c_comp B (b ≠ 0) Bo Ro (c_p0 B) (k_am M) (k_wm M) W R res set' cnt) ∨ ∃ W, c_ncomp B (b ≠ 0) Bo Ro (c_p0 B) W) hS hz hpr (fun z1 z2 => absurd ⟨z1, z2⟩ no) (fun _ M' en W R res set' cnt L _ _ _ _ _ comp _ _ _ => Or.inl ⟨W, R, res, set', cnt, comp⟩) (fun _ M' en W _ _ _ _ nc _ => Or.inr ⟨W, nc⟩)
  have a' : qJ 9 159 _ (h, M) (fun _ _ => (∃ W R res set' cnt, c_comp B (b ≠ 0) Bo Ro (c_p0 B) (k_am M) (k_wm M) W R res set' cnt) ∨ ∃ W, c_ncomp B (b ≠ 0) Bo Ro (c_p0 B) W) := qJ.imp a (fun r σ' hr => by
    obtain ⟨v, h', M', _, _, e⟩ := hr
    exact e)
  exact qJ_so a'
end
/-! the law composes, for all that may be true of it -/
section
variable {d : Nat} {f : Int → qH → qM → Prop} {B Bo : pT} {ob : Prop} {Ro : c_R} {kp : Int} {at' wd : Int → Int}
theorem L215x {h : qH} {u0 : Nat} {M : qM} (hu : k_h u0 h) (hB : c_ok B) (hB2 : c_ok2 B) (hl : k_lim B) (huq : k_uq B) (hbk : k_bk B M) (hold : (¬ ob ∧ kp = 0) ∨ (ob ∧ kp ≠ 0 ∧ k_om B Bo Ro M ∧ ∀ L E, c_oldok B L E Bo Ro)) (hv : k_v66 M) (hbr : k_brk B at' wd M)
    (ex : (∃ W R res set' cnt, c_comp B ob Bo Ro (c_p0 B) at' wd W R res set' cnt) ∨ ∃ W, c_ncomp B ob Bo Ro (c_p0 B) W)
    (H : ∀ v h' M', k_h (u0 + 860) h' → k_fL M M' → k_env2 B Bo ob Ro kp (k_T M) M' → k_v66 M' → (0 ≤ M' 76 0 6 ∧ M' 76 0 6 ≤ 61) → (∀ W R res set' cnt, c_comp B ob Bo Ro (c_p0 B) at' wd W R res set' cnt → v = res ∧ k_edm B R (c_p0 B) M' ∧ k_e 68 B W M' ∧ (M' 76 0 8 = set' ∧ M' 76 0 9 = cnt) ∧ k_brk B (fun _ => B 8 0) (fun y => B 6 y + W y) M') → (∀ W, c_ncomp B ob Bo Ro (c_p0 B) W → v = -1 ∧ k_brk B (fun _ => B 8 0) (fun y => B 6 y + W y) M') → f v h' M') : e215 (d + 7) h kp M f := by
  have ne : Nonempty ({q : (Int → Int) × c_R × Int × Int × Int // c_comp B ob Bo Ro (c_p0 B) at' wd q.1 q.2.1 q.2.2.1 q.2.2.2.1 q.2.2.2.2} ⊕ {W : Int → Int // c_ncomp B ob Bo Ro (c_p0 B) W}) := by
    rcases ex with ⟨W, R, res, set', cnt, c⟩ | ⟨W, c⟩
    · exact ⟨.inl ⟨(W, R, res, set', cnt), c⟩⟩
    · exact ⟨.inr ⟨W, c⟩⟩
  have a := L215_all (ι := {q : (Int → Int) × c_R × Int × Int × Int // c_comp B ob Bo Ro (c_p0 B) at' wd q.1 q.2.1 q.2.2.1 q.2.2.2.1 q.2.2.2.2} ⊕ {W : Int → Int // c_ncomp B ob Bo Ro (c_p0 B) W})
    (f := fun i v h' M' => (k_h (u0 + 860) h' ∧ k_fL M M' ∧ k_env2 B Bo ob Ro kp (k_T M) M' ∧ k_v66 M' ∧ (0 ≤ M' 76 0 6 ∧ M' 76 0 6 ≤ 61)) ∧ (∀ q, i = .inl q → v = q.1.2.2.1 ∧ k_edm B q.1.2.1 (c_p0 B) M' ∧ k_e 68 B q.1.1 M' ∧ (M' 76 0 8 = q.1.2.2.2.1 ∧ M' 76 0 9 = q.1.2.2.2.2) ∧ k_brk B (fun _ => B 8 0) (fun y => B 6 y + q.1.1 y) M') ∧ ∀ q, i = .inr q → v = -1 ∧ k_brk B (fun _ => B 8 0) (fun y => B 6 y + q.1 y) M')
    (Classical.choice ne)
    (D := d + 7) (h := h) (kp := kp) (M := M) (fun i => by
      rcases i with ⟨⟨W, R, res, set', cnt⟩, c⟩ | ⟨W, c⟩
      · refine L215 hu hB hB2 hl huq hbk hold hv hbr (Or.inl ⟨W, R, res, set', cnt, c, fun h' M' a1 a2 a3 a4 a5 a6 a7 a8 a9 a10 => ⟨⟨a1, a2, a3, a8, a10⟩, fun q e => ?_, fun q e => nomatch e⟩⟩)
        injection e with e
        subst e
        exact ⟨rfl, a4, a5, ⟨a6, a7⟩, a9⟩
      · refine L215 hu hB hB2 hl huq hbk hold hv hbr (Or.inr ⟨W, c, fun h' M' a1 a2 a3 a4 a5 a6 => ⟨⟨a1, a2, a3, a4, a6⟩, fun q e => (nomatch e), fun q e => ?_⟩⟩)
        injection e with e
        subst e
        exact ⟨rfl, a5⟩)
  refine qJ.imp a (fun r σ' hr => ?_)
  obtain ⟨v, h', M', e1, e2, e3⟩ := hr
  refine ⟨v, h', M', e1, e2, ?_⟩
  obtain ⟨a1, a2, a3, a4, a5⟩ : k_h (u0 + 860) h' ∧ k_fL M M' ∧ k_env2 B Bo ob Ro kp (k_T M) M' ∧ k_v66 M' ∧ (0 ≤ M' 76 0 6 ∧ M' 76 0 6 ≤ 61) := by
    obtain ⟨W, R, res, set', cnt, c⟩ | ⟨W, c⟩ := ex
    · exact (e3 (.inl ⟨(W, R, res, set', cnt), c⟩)).1
    · exact (e3 (.inr ⟨W, c⟩)).1
  exact H v h' M' a1 a2 a3 a4 a5 (fun W R res set' cnt c => (e3 (.inl ⟨(W, R, res, set', cnt), c⟩)).2.1 _ rfl) (fun W c => (e3 (.inr ⟨W, c⟩)).2.2 _ rfl)
theorem L218x {h : qH} {f : Int → qM → Prop} {p0 : Int} {M : qM} {P : c_R → Prop} (hS : qSe h) (hB : c_ok B) (hB2 : c_ok2 B) (hl : k_lim B) (hbk : k_bk B M) (hp : 0 ≤ p0 ∧ p0 ≤ 100) (hP : ∀ R, P R → (∃ W ob Bo Ro, c_out B W ob Bo Ro p0 R) ∧ k_here B R M ∧ ∀ y, 0 ≤ y → y < 600 → c_there B y → c_G B R y ≤ 61) (ex : ∃ R, P R) (H : ∀ v, (∀ R, P R → v = k_L B R (M 78 0)) → f v M) : e218 (d + 5) h M f := by
  obtain ⟨R0, p0'⟩ := ex
  have a := qJ_all (ι := {R // P R}) (Q := fun i => qRi h (fun v M' => v = k_L B i.1 (M 78 0) ∧ M' = M)) (d := d + 5) (m := 218) (σ := (h, M)) ⟨R0, p0'⟩ (fun i => by
    obtain ⟨⟨W, ob, Bo, Ro, out⟩, hh, hG⟩ := hP i.1 i.2
    exact L218 hS hB hB2 hl hbk hp out hh hG ⟨rfl, rfl⟩)
  refine qJ.imp a (fun r σ' hr => ?_)
  obtain ⟨v, M', e1, e2, e3, e4⟩ := hr ⟨R0, p0'⟩
  refine ⟨v, M', e1, e2, ?_⟩
  rw [e4]
  refine H v (fun R p => ?_)
  obtain ⟨v2, M2, x1, x2, x3, x4⟩ := hr ⟨R, p⟩
  rw [e1] at x1
  injection x1 with x1
  injection x1 with x1
  injection x1 with x1
  rw [x1]; exact x3
end
