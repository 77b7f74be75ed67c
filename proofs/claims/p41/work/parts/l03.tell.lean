/-! ===== by what the law tells; what telling changes ===== -/
def z_sX (k : Nat) : Bool := Nat.beq k 7 || Nat.ble 64 k
def z_X (M : qM) : qM := fun k m s => bif z_sX k then 0 else M k m s
/-- the class has only weighed -/
def z_fr (M M' : qM) : Prop := ∀ (k : Nat) (o s : Int), k ≠ 7 → k < 64 → M' k o s = M k o s
theorem z_fr_X {M M' : qM} (h : z_fr M M') : z_X M' = z_X M := by
  funext k m s
  unfold z_X
  by_cases q : k = 7 ∨ 64 ≤ k
  · have e : z_sX k = true := by
      unfold z_sX
      rcases q with q | q
      · subst q; rfl
      · rw [Nat.ble_eq_true_of_le q]; cases Nat.beq k 7 <;> rfl
    rw [e]; rfl
  · rw [h k m s (fun z => q (Or.inl z)) (by omega)]
theorem z_fr_r {M : qM} : z_fr M M := fun _ _ _ _ _ => rfl
section
variable {B : pT} {en L : Int} {W : Int → Int} {R : c_R} {M M' : qM}
theorem z_cx_X : z_cx B en W R L (z_X M) = z_cx B en W R L M := rfl
theorem z_cx_fr (f : z_fr M M') (h : z_cx B en W R L M) : z_cx B en W R L M' := by
  rw [← z_cx_X, z_fr_X f, z_cx_X]; exact h
def k_as (B : pT) (en : Int) (W : Int → Int) (R : c_R) (L : Int) (M : qM) : Prop := (z_cx B en W R L M ∧ M 10 0 13 ≠ 0) ∧ (k_lim B ∧ k_uq B ∧ k_W B W) ∧ k_bk B M ∧ k_off B M ∧ k_e 68 B W M ∧ k_here B R M ∧ ∀ c, 0 ≤ c → c < 3 → 0 < B 0 c → w_fi (r_W R c) + w_ct (r_W R c) ≤ 62
def k_sx (M M' : qM) : Prop := ∀ (k : Nat) (o s : Int), k ≠ 7 → ¬ 87 ≤ k → ¬ (k = 71 ∧ o ≠ 0) → ¬ (k = 76 ∧ o = 0 ∧ 29 ≤ s ∧ s ≤ 32) → M' k o s = M k o s
theorem k_sx_r : k_sx M M := fun _ _ _ _ _ _ _ => rfl
theorem k_sx_t {M2 : qM} (h : k_sx M M') (h' : k_sx M' M2) : k_sx M M2 := fun k o s a b c d => by rw [h' k o s a b c d, h k o s a b c d]
theorem k_sx_98 (h : k_98 M M') : k_sx M M' := fun k o s a b c d => h k o s (by omega) (by omega)
theorem k_here_sx {ob : Prop} {Bo : pT} {Ro : c_R} {p0 : Int} (hB : c_ok B) (hl : k_lim B) (out : c_out B W ob Bo Ro p0 R) (hh : k_here B R M) (f : k_sx M M') : k_here B R M' := fun c c0 c3 => by
  have sz := (k_szA hB hl out.1 (c := c) ⟨c0, c3⟩).1
  refine k_cm_fr ⟨c0, c3⟩ (fun n => ⟨sz.2.2.2.1, sz.2.2.2.2, B 8 1, ((out.2 c c0 c3).1.2 n).2.2⟩) (hh c c0 c3) (fun s a b => f _ _ _ (by decide) (by decide) (by omega) (by omega)) (fun s a b => f _ _ _ (by decide) (by decide) (by omega) (by omega)) (fun s a b => f _ _ _ (by decide) (by decide) (by omega) (by omega)) (fun s a => f _ _ _ (by decide) (by decide) (by omega) (by omega)) (fun k p _ hk _ _ => f _ _ _ (by omega) (by omega) (by omega) (by omega))
theorem k_as_fr (h : k_as B en W R L M) (f : k_sx M M') : k_as B en W R L M' := by
  obtain ⟨⟨h1, h2⟩, h3, h4, h5, h6, h7, h8⟩ := h
  obtain ⟨ob, B1, R1, out⟩ := (h1.2.2 h2).2.2.1
  refine ⟨⟨z_cx_fr (fun k o s a b => f k o s a (by omega) (by omega) (by omega)) h1, by rw [f 10 0 13 (by decide) (by decide) (by decide) (by omega)]; exact h2⟩, h3, ?_, fun it a b => by rw [f _ _ _ (by decide) (by decide) (by decide) (by omega)]; exact h5 it a b, fun it w a b e g => by rw [f _ _ _ (by decide) (by decide) (by decide) (by omega)]; exact h6 it w a b e g, k_here_sx h1.1.1.1 h3.1 out h7 f, h8⟩
  exact k_bk_fr h4 (fun s => f _ _ _ (by decide) (by decide) (by decide) (by omega)) (fun it a b => by rw [f _ _ _ (by decide) (by decide) (by decide) (by omega)]; exact ⟨rfl, (h4.2.1 it a b).1⟩) (fun s => f _ _ _ (by decide) (by decide) (by decide) (by omega)) (f _ _ _ (by decide) (by decide) (by decide) (by omega)) (f _ _ _ (by decide) (by decide) (by decide) (by omega)) (f _ _ _ (by decide) (by decide) (by decide) (by omega))
/-- margins stand at marginal words alone -/
theorem mg_step_k5 {dp pg x hi w y : Int} {s : c_Mg} (hx : x ≠ y) (h : mg_p s y = -1) : mg_p (mg_step dp pg x hi w s) y = -1 := by
  unfold mg_step
  by_cases q : mg_e s ≤ b_at w (mg_e s) dp hi
  · rw [if_pos q]
    show (if y = x then _ else mg_p s y) = -1
    rw [if_neg (fun z => hx z.symm)]; exact h
  · rw [if_neg q]; exact h
theorem mg_over_k5 {dp pg y : Int} {V o : Int → Int} {s : c_Mg} (h : mg_p s y = -1) : ∀ m : Nat, (∀ j : Nat, j < m → o j ≠ y) → mg_p (mg_over dp pg V o m s) y = -1 := by
  intro m
  induction m with
  | zero => intro _; exact h
  | succ m ih => intro ho; exact mg_step_k5 (ho m (by omega)) (ih (fun j a => ho j (by omega)))
theorem mg_ws_k5 {dp pg x0 w y : Int} {s : c_Mg} (k5 : B 4 y ≠ 5) (h : mg_p s y = -1) : ∀ m : Nat, mg_p (mg_ws dp pg B x0 w m s) y = -1 := by
  intro m
  induction m with
  | zero => exact h
  | succ m ih =>
    show mg_p (if B 4 (x0 + m) = 5 then _ else _) y = -1
    by_cases q : B 4 (x0 + (m : Int)) = 5
    · rw [if_pos q]; exact mg_step_k5 (fun z => by rw [z] at q; exact k5 q) ih
    · rw [if_neg q]; exact ih
theorem mg_rows_k5 {dp pg c a y : Int} {A : pA} {pl : Int → Int} {s : c_Mg} (k5 : B 4 y ≠ 5) (h : mg_p s y = -1) : ∀ m : Nat, mg_p (mg_rows dp pg B A c a pl m s) y = -1 := by
  intro m
  induction m with
  | zero => exact h
  | succ m ih => exact mg_ws_k5 k5 ih _
theorem mgn_k5 {ob : Prop} {Bo : pT} {Ro : c_R} {p0 c y : Int} (hB : c_ok B) (out : c_out B W ob Bo Ro p0 R) (hc : 0 ≤ c ∧ c < 3) (hN : 0 < B 0 c) (k5 : B 4 y ≠ 5) : ∀ k : Nat, (k : Int) ≤ w_wr (r_W R c) → mg_p (c_mgn B R c k) y = -1 := by
  intro k
  induction k with
  | zero => intro _; rfl
  | succ k ih =>
    intro hk
    have i := ih (by omega)
    have ok := c_mgn_ok hB out hc hN k (by omega)
    have n0 := ok.2.1
    refine mg_rows_k5 k5 (mg_over_k5 (s := mg_begin (c_mgn B R c k)) i _ (fun j hj e => ?_)) _
    have hj' : j < (mg_n (c_mgn B R c k)).toNat := hj
    have := (ok.2.2 j (by omega) (by omega)).2.2
    exact k5 (by rw [← e]; exact this)
end
