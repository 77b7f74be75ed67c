/-! ===== from cut to cut, by wip/p41/gen/genw.py: methods 1 to 16 ===== -/
theorem w1_44 {d : Nat} {h : qH} (hS : qSe h) {f : Int → qM → Prop} {x1 : Int} {x2 : Int} {x3 : Int} {M : qM} (H :
    ((x3 < 0 →
    e4 (d + 1) h x1 M (fun M105 => 
      b1_68 d h f (.inr (.inl (some (0, 0)))) x1 x2 0 M105)) ∧
    (¬ (x3 < 0) →
    e2 (d + 2) h x1 x3 x2 M (fun M108 => 
      (qIn (x3 + (-1)) ∧ b1_44 d h f x1 x2 (x3 + (-1)) M108))))) : b1_44 d h f x1 x2 x3 M :=
  qWq (fun pc => Nat.beq pc 44 || Nat.beq pc 68) 300 (qAn H (fun h101 h102 => And.intro (fun hc103 => (And.intro rfl (qEv.go (h101 hc103) (qLq d rfl) (fun M105 h106 => h106)))) (fun hc103 => (And.intro rfl (qEv.go (h102 hc103) (qLq d rfl) (fun M108 h109 => (qAn h109 (fun a110 h111 => And.intro a110 h111))))))))
theorem w1_68 {d : Nat} {h : qH} (hS : qSe h) {f : Int → qM → Prop} {u0 : qV} {x1 : Int} {x2 : Int} {x3 : Int} {M : qM} (H :
    ((x3 < (M 5 x1 2) →
    e47 (d + 1) h x1 x3 M (fun v104 M105 => 
      ((0 ≤ x3 ∧ x3 < 20) ∧ ∀ M107, M107 = qU M105 36 x1 x3 v104 → (qIn (x3 + 1) ∧ b1_68 d h f (u0) x1 x2 (x3 + 1) M107)))) ∧
    (¬ (x3 < (M 5 x1 2)) →
    (∀ M112, M112 = qU M 5 x1 8 x2 → f 1 M112)))) : b1_68 d h f u0 x1 x2 x3 M :=
  qWq (fun pc => Nat.beq pc 44 || Nat.beq pc 68) 300 (qAn H (fun h101 h102 => And.intro (fun hc103 => (And.intro (hS.1 _ _ _ rfl) (And.intro rfl (qEi.go (h101 hc103) (qLq d rfl) (fun v104 M105 h106 => (qAn h106 (fun a108 h109 => And.intro a108 (qAn (h109 _ rfl) (fun a110 h111 => And.intro a110 h111))))))))) (fun hc103 => (And.intro ⟨rfl, (Or.inr rfl)⟩ ⟨1, (qU M 5 x1 8 x2), rfl, rfl, ((h102 hc103) _ rfl)⟩))))
theorem w1 {d : Nat} {h : qH} (hS : qSe h) {x1 : Int} {x2 : Int} {M : qM} {f : Int → qM → Prop} (H :
    (((M 5 x1 0) = 0 →
    e50 (d + 2) h x1 x2 M (fun v104 M105 => 
      ((v104 = 0 →
      ((0 ≤ (M105 5 x1 2) ∧ (M105 5 x1 2) < 21) ∧ ∀ M110, M110 = qU M105 12 0 (M105 5 x1 2) 0 → ((0 ≤ (M110 5 x1 2) ∧ (M110 5 x1 2) < 21) ∧ ∀ M113, M113 = qU M110 13 0 (M110 5 x1 2) 0 → (qIn ((M113 5 x1 2) - 1) ∧ b1_44 d h f x1 x2 ((M113 5 x1 2) - 1) M113)))) ∧
      (¬ (v104 = 0) →
      f 0 M105)))) ∧
    (¬ ((M 5 x1 0) = 0) →
    f 0 M))) : e1 (d + 3) h x1 x2 M f :=
  qJ.body (Nat.le_of_ble_eq_true rfl) (qWq (fun pc => Nat.beq pc 44 || Nat.beq pc 68) 300 (qAn H (fun h101 h102 => And.intro (fun hc103 => (And.intro rfl (qEi.go (h101 hc103) (qLq d rfl) (fun v104 M105 h106 => (qAn h106 (fun h107 h108 => And.intro (fun hc109 => (And.intro (hS.1 _ _ _ rfl) (qAn (h107 hc109) (fun a111 h112 => And.intro a111 (And.intro (hS.1 _ _ _ rfl) (qAn (h112 _ rfl) (fun a114 h115 => And.intro a114 (qAn (h115 _ rfl) (fun a116 h117 => And.intro a116 h117))))))))) (fun hc109 => (And.intro ⟨rfl, (Or.inl rfl)⟩ ⟨0, M105, rfl, rfl, (h108 hc109)⟩)))))))) (fun hc103 => (And.intro ⟨rfl, (Or.inl rfl)⟩ ⟨0, M, rfl, rfl, (h102 hc103)⟩)))))
theorem w2_16 {d : Nat} {h : qH} (hS : qSe h) {f : qM → Prop} {x1 : Int} {x2 : Int} {x3 : Int} {x4 : Int} {x5 : Int} {u6 : qV} {M : qM} (H :
    ((x5 ≤ (M 5 x1 2) →
    (qIn (x5 - 1) ∧ e47 (d + 1) h x1 (x5 - 1) M (fun v106 M107 => 
      (qIn (1 + v106) ∧ (qIn (x4 + (1 + v106)) ∧ (((x4 + (1 + v106)) ≤ x3 →
      b2_57 d h f x1 x2 x3 (x4 + (1 + v106)) x5 (u6) M107) ∧
      (¬ ((x4 + (1 + v106)) ≤ x3) →
      (qIn (x2 + 1) ∧ ((x5 ≤ (x2 + 1) →
        b2_57 d h f x1 x2 x3 (x4 + (1 + v106)) x5 (u6) M107) ∧
        (¬ (x5 ≤ (x2 + 1)) →
        f M107)))))))))) ∧
    (¬ (x5 ≤ (M 5 x1 2)) →
    f M))) : b2_16 d h f x1 x2 x3 x4 x5 u6 M :=
  qWq (fun pc => Nat.beq pc 16 || Nat.beq pc 57 || Nat.beq pc 128) 300 (qAn H (fun h101 h102 => And.intro (fun hc103 => (qAn (h101 hc103) (fun a104 h105 => And.intro a104 (And.intro rfl (qEi.go h105 (qLq d rfl) (fun v106 M107 h108 => (qAn h108 (fun a109 h110 => And.intro a109 (qAn h110 (fun a111 h112 => And.intro a111 (qAn h112 (fun h113 h114 => And.intro (fun hc115 => (h113 hc115)) (fun hc115 => (qAn (h114 hc115) (fun a116 h117 => And.intro a116 (qAn h117 (fun h118 h119 => And.intro (fun hc120 => (h118 hc120)) (fun hc120 => (And.intro rfl ⟨M107, rfl, rfl, (h119 hc120)⟩))))))))))))))))))) (fun hc103 => (And.intro rfl ⟨M, rfl, rfl, (h102 hc103)⟩))))
theorem w2_57 {d : Nat} {h : qH} (hS : qSe h) {f : qM → Prop} {x1 : Int} {x2 : Int} {x3 : Int} {x4 : Int} {x5 : Int} {u6 : qV} {M : qM} (H :
    ((0 ≤ x5 ∧ x5 < 21) ∧ (qIn (x3 - x4) ∧ (∀ x105 : Int, x105 = (if x5 = (M 5 x1 2) then 1 else 0) → e3 (d + 1) h (x3 - x4) x105 M (fun v107 M108 => 
    (qIn ((M 12 0 x5) + v107) ∧ ((0 ≤ x2 ∧ x2 < 21) ∧ ((((M 12 0 x5) + v107) < (M108 12 0 x2) →
    b2_128 d h f x1 x2 x3 x4 x5 ((M 12 0 x5) + v107) M108) ∧
    (¬ (((M 12 0 x5) + v107) < (M108 12 0 x2)) →
    ((0 ≤ x2 ∧ x2 < 21) ∧ ((((M 12 0 x5) + v107) = (M108 12 0 x2) →
      ((0 ≤ x5 ∧ x5 < 21) ∧ (qIn ((M108 13 0 x5) + 1) ∧ ((0 ≤ x2 ∧ x2 < 21) ∧ ((((M108 13 0 x5) + 1) ≤ (M108 13 0 x2) →
        b2_128 d h f x1 x2 x3 x4 x5 ((M 12 0 x5) + v107) M108) ∧
        (¬ (((M108 13 0 x5) + 1) ≤ (M108 13 0 x2)) →
        (qIn (x5 + 1) ∧ b2_16 d h f x1 x2 x3 x4 (x5 + 1) (.inl ((M 12 0 x5) + v107)) M108))))))) ∧
      (¬ (((M 12 0 x5) + v107) = (M108 12 0 x2)) →
      (qIn (x5 + 1) ∧ b2_16 d h f x1 x2 x3 x4 (x5 + 1) (.inl ((M 12 0 x5) + v107)) M108))))))))))))) : b2_57 d h f x1 x2 x3 x4 x5 u6 M :=
  qWq (fun pc => Nat.beq pc 16 || Nat.beq pc 57 || Nat.beq pc 82 || Nat.beq pc 128) 300 (And.intro (hS.1 _ _ _ rfl) (qAn H (fun a101 h102 => And.intro a101 (qAn h102 (fun a103 h104 => And.intro a103 (have k135 : ∀ (x105 : Int), e3 (d + 1) h (x3 - x4) x105 M (fun v107 M108 =>  (qIn ((M 12 0 x5) + v107) ∧ ((0 ≤ x2 ∧ x2 < 21) ∧ ((((M 12 0 x5) + v107) < (M108 12 0 x2) → b2_128 d h f x1 x2 x3 x4 x5 ((M 12 0 x5) + v107) M108) ∧ (¬ (((M 12 0 x5) + v107) < (M108 12 0 x2)) → ((0 ≤ x2 ∧ x2 < 21) ∧ ((((M 12 0 x5) + v107) = (M108 12 0 x2) → ((0 ≤ x5 ∧ x5 < 21) ∧ (qIn ((M108 13 0 x5) + 1) ∧ ((0 ≤ x2 ∧ x2 < 21) ∧ ((((M108 13 0 x5) + 1) ≤ (M108 13 0 x2) → b2_128 d h f x1 x2 x3 x4 x5 ((M 12 0 x5) + v107) M108) ∧ (¬ (((M108 13 0 x5) + 1) ≤ (M108 13 0 x2)) → (qIn (x5 + 1) ∧ b2_16 d h f x1 x2 x3 x4 (x5 + 1) (.inl ((M 12 0 x5) + v107)) M108))))))) ∧ (¬ (((M 12 0 x5) + v107) = (M108 12 0 x2)) → (qIn (x5 + 1) ∧ b2_16 d h f x1 x2 x3 x4 (x5 + 1) (.inl ((M 12 0 x5) + v107)) M108))))))))) → qG (d + 1) (-1, fun _ => 0) (qP 2) (qRv h f) 82 [.inr (.inl (some (0, 0))), .inr (.inl (some (5, x1))), .inl x2, .inl x3, .inl x4, .inl x5, u6] [.inl x105, .inl (x3 - x4), .inl (M 12 0 x5)] (h, M) := fun x105 h106 => qWq (fun pc => Nat.beq pc 16 || Nat.beq pc 57 || Nat.beq pc 82 || Nat.beq pc 128) 300 (And.intro rfl (qEi.go h106 (qLq d rfl) (fun v107 M108 h109 => (qAn h109 (fun a110 h111 => And.intro a110 (And.intro (hS.1 _ _ _ rfl) (qAn h111 (fun a112 h113 => And.intro a112 (qAn h113 (fun h114 h115 => And.intro (fun hc116 => (h114 hc116)) (fun hc116 => (And.intro (hS.1 _ _ _ rfl) (qAn (h115 hc116) (fun a117 h118 => And.intro a117 (qAn h118 (fun h119 h120 => And.intro (fun hc121 => (And.intro (hS.1 _ _ _ rfl) (qAn (h119 hc121) (fun a122 h123 => And.intro a122 (qAn h123 (fun a124 h125 => And.intro a124 (And.intro (hS.1 _ _ _ rfl) (qAn h125 (fun a126 h127 => And.intro a126 (qAn h127 (fun h128 h129 => And.intro (fun hc130 => (h128 hc130)) (fun hc130 => (qAn (h129 hc130) (fun a131 h132 => And.intro a131 h132)))))))))))))) (fun hc121 => (qAn (h120 hc121) (fun a133 h134 => And.intro a133 h134))))))))))))))))))); (And.intro (fun hc136 => (k135 1 (h104 1 (if_pos hc136).symm))) (fun hc136 => (k135 0 (h104 0 (if_neg hc136).symm))))))))))
theorem w2_128 {d : Nat} {h : qH} (hS : qSe h) {f : qM → Prop} {x1 : Int} {x2 : Int} {x3 : Int} {x4 : Int} {x5 : Int} {x6 : Int} {M : qM} (H :
    ((0 ≤ x2 ∧ x2 < 21) ∧ ∀ M101, M101 = qU M 12 0 x2 x6 → ((0 ≤ x5 ∧ x5 < 21) ∧ (qIn ((M101 13 0 x5) + 1) ∧ ((0 ≤ x2 ∧ x2 < 21) ∧ ∀ M108, M108 = qU M101 13 0 x2 ((M101 13 0 x5) + 1) → ((0 ≤ x2 ∧ x2 < 21) ∧ ∀ M111, M111 = qU M108 14 0 x2 x5 → (qIn (x5 + 1) ∧ b2_16 d h f x1 x2 x3 x4 (x5 + 1) (.inl x6) M111))))))) : b2_128 d h f x1 x2 x3 x4 x5 x6 M :=
  qWq (fun pc => Nat.beq pc 16 || Nat.beq pc 57 || Nat.beq pc 128) 300 (And.intro (hS.1 _ _ _ rfl) (qAn H (fun a102 h103 => And.intro a102 (And.intro (hS.1 _ _ _ rfl) (And.intro (hS.1 _ _ _ rfl) (qAn (h103 _ rfl) (fun a104 h105 => And.intro a104 (qAn h105 (fun a106 h107 => And.intro a106 (qAn h107 (fun a109 h110 => And.intro a109 (And.intro (hS.1 _ _ _ rfl) (qAn (h110 _ rfl) (fun a112 h113 => And.intro a112 (qAn (h113 _ rfl) (fun a114 h115 => And.intro a114 h115))))))))))))))))
theorem w2 {d : Nat} {h : qH} (hS : qSe h) {x1 : Int} {x2 : Int} {x3 : Int} {M : qM} {f : qM → Prop} (H :
    ((0 ≤ x2 ∧ x2 < 21) ∧ ∀ M101, M101 = qU M 12 0 x2 268435456 → (qIn (x2 + 1) ∧ b2_16 d h f x1 x2 x3 (-1) (x2 + 1) (q_u) M101))) : e2 (d + 2) h x1 x2 x3 M f :=
  qJ.body (Nat.le_of_ble_eq_true rfl) (qWq (fun pc => Nat.beq pc 16 || Nat.beq pc 57 || Nat.beq pc 128) 300 (And.intro (hS.1 _ _ _ rfl) (qAn H (fun a102 h103 => And.intro a102 (qAn (h103 _ rfl) (fun a104 h105 => And.intro a104 h105))))))
theorem w3 {d : Nat} {h : qH} (hS : qSe h) {x0 : Int} {x1 : Int} {M : qM} {f : Int → qM → Prop} (H :
    ((x0 < 0 →
    (qIn ((-100) * x0) ∧ f ((-100) * x0) M)) ∧
    (¬ (x0 < 0) →
    ((x1 = 0 → qIn (x0 * x0)) ∧
      (∀ x106 : Int, x106 = (if x1 = 0 then (x0 * x0) else 0) → f x106 M))))) : e3 (d + 1) h x0 x1 M f :=
  qJ.body (Nat.le_of_ble_eq_true rfl) (qWq (fun pc => Nat.beq pc 20) 300 (qAn H (fun h101 h102 => And.intro (fun hc103 => (qAn (h101 hc103) (fun a104 h105 => And.intro a104 ⟨((-100) * x0), M, rfl, rfl, h105⟩))) (fun hc103 => (qAn (h102 hc103) (fun h109 h110 => (have k108 : ∀ (x106 : Int), f x106 M → qG (d + 0) (-1, fun _ => 0) (qP 3) (qRi h f) 20 [.inl x0, .inl x1] [.inl x106] (h, M) := fun x106 h107 => qWq (fun pc => Nat.beq pc 20) 300 ⟨x106, M, rfl, rfl, h107⟩; (And.intro (fun hc111 => (And.intro (h109 hc111) (k108 (x0 * x0) (h110 (x0 * x0) (if_pos hc111).symm)))) (fun hc111 => (k108 0 (h110 0 (if_neg hc111).symm)))))))))))
theorem w4_17 {d : Nat} {h : qH} (hS : qSe h) {f : qM → Prop} {x1 : Int} {x2 : Int} {M : qM} (H :
    ((x2 < (M 5 x1 2) →
    (((M 5 x1 10) < 20 →
      ((0 ≤ x2 ∧ x2 < 21) ∧ ((0 ≤ (M 5 x1 10) ∧ (M 5 x1 10) < 20) ∧ ∀ M109, M109 = qU M 37 x1 (M 5 x1 10) (M 14 0 x2) → (qIn ((M109 5 x1 10) + 1) ∧ (∀ M114, M114 = qU M109 5 x1 10 ((M109 5 x1 10) + 1) → b4_17 d h f x1 (M 14 0 x2) M114))))) ∧
      (¬ ((M 5 x1 10) < 20) →
      f M))) ∧
    (¬ (x2 < (M 5 x1 2)) →
    f M))) : b4_17 d h f x1 x2 M :=
  qWq (fun pc => Nat.beq pc 17) 300 (qAn H (fun h101 h102 => And.intro (fun hc103 => (qAn (h101 hc103) (fun h104 h105 => And.intro (fun hc106 => (And.intro (hS.1 _ _ _ rfl) (qAn (h104 hc106) (fun a107 h108 => And.intro a107 (And.intro (hS.1 _ _ _ rfl) (qAn h108 (fun a110 h111 => And.intro a110 (qAn (h111 _ rfl) (fun a112 h113 => And.intro a112 (h113 _ rfl)))))))))) (fun hc106 => (And.intro rfl ⟨M, rfl, rfl, (h105 hc106)⟩))))) (fun hc103 => (And.intro rfl ⟨M, rfl, rfl, (h102 hc103)⟩))))
theorem w4 {d : Nat} {h : qH} (hS : qSe h) {x1 : Int} {M : qM} {f : qM → Prop} (H :
    (∀ M101, M101 = qU M 5 x1 10 0 → (∀ M102, M102 = qU M101 5 x1 11 (M101 12 0 0) → b4_17 d h f x1 0 M102))) : e4 (d + 1) h x1 M f :=
  qJ.body (Nat.le_of_ble_eq_true rfl) (qWq (fun pc => Nat.beq pc 17) 300 (And.intro (hS.1 _ _ _ rfl) (And.intro ⟨by decide, by decide⟩ ((H _ rfl) _ rfl))))
theorem w6_4 {d : Nat} {h : qH} (hS : qSe h) {f : Int → qM → Prop} {x0 : Int} {x1 : Int} {x2 : Int} {x3 : Int} {M : qM} (H :
    ((x3 < (M 1 x0 1) →
    ((¬ (x3 = x1) → (0 ≤ x3 ∧ x3 < 10)) ∧
      (∀ x104 : Int, x104 = (if x3 = x1 then 0 else (M 5 (1 + 10 * x0 + x3) 2)) → (qIn (x2 + x104) ∧ (qIn (x3 + 1) ∧ b6_4 d h f x0 x1 (x2 + x104) (x3 + 1) M))))) ∧
    (¬ (x3 < (M 1 x0 1)) →
    f x2 M))) : b6_4 d h f x0 x1 x2 x3 M :=
  qWq (fun pc => Nat.beq pc 4 || Nat.beq pc 31) 300 (qAn H (fun h101 h102 => And.intro (fun hc103 => (qAn (h101 hc103) (fun h111 h112 => (have k110 : ∀ (x104 : Int), (qIn (x2 + x104) ∧ (qIn (x3 + 1) ∧ b6_4 d h f x0 x1 (x2 + x104) (x3 + 1) M)) → qG (d + 0) (-1, fun _ => 0) (qP 6) (qRi h f) 31 [.inr (.inl (some (1, x0))), .inl x1, .inl x2, .inl x3] [.inl x104, .inl x2] (h, M) := fun x104 h105 => qWq (fun pc => Nat.beq pc 4 || Nat.beq pc 31) 300 (qAn h105 (fun a106 h107 => And.intro a106 (qAn h107 (fun a108 h109 => And.intro a108 h109)))); (And.intro (fun hc113 => (k110 0 (h112 0 (if_pos hc113).symm))) (fun hc113 => (And.intro (hS.1 _ _ _ rfl) (And.intro ⟨(h111 hc113).1, (h111 hc113).2, hS.2 _ _ _ rfl (h111 hc113).1 (h111 hc113).2⟩ (k110 (M 5 (1 + 10 * x0 + x3) 2) (h112 (M 5 (1 + 10 * x0 + x3) 2) (if_neg hc113).symm)))))))))) (fun hc103 => ⟨x2, M, rfl, rfl, (h102 hc103)⟩)))
theorem w6 {d : Nat} {h : qH} (hS : qSe h) {x0 : Int} {x1 : Int} {M : qM} {f : Int → qM → Prop} (H :
    b6_4 d h f x0 x1 0 0 M) : e6 (d + 1) h x0 x1 M f :=
  qJ.body (Nat.le_of_ble_eq_true rfl) (qWq (fun pc => Nat.beq pc 4) 300 H)
theorem w7_5 {d : Nat} {h : qH} (hS : qSe h) {f : Int → qM → Prop} {x0 : Int} {x1 : Int} {x2 : Int} {x3 : Int} {x4 : Int} {M : qM} (H :
    ((x4 < (M 1 x0 1) →
    ((x4 = x2 →
      (qIn (x3 + 0) ∧ (qIn (x4 + 1) ∧ b7_5 d h f x0 x1 x2 (x3 + 0) (x4 + 1) M))) ∧
      (¬ (x4 = x2) →
      ((0 ≤ x4 ∧ x4 < 10) ∧ e48 (d + 1) h (1 + 10 * x0 + x4) x1 M (fun v113 M114 => 
        (qIn (x3 + v113) ∧ (qIn (x4 + 1) ∧ b7_5 d h f x0 x1 x2 (x3 + v113) (x4 + 1) M114))))))) ∧
    (¬ (x4 < (M 1 x0 1)) →
    f x3 M))) : b7_5 d h f x0 x1 x2 x3 x4 M :=
  qWq (fun pc => Nat.beq pc 5) 300 (qAn H (fun h101 h102 => And.intro (fun hc103 => (qAn (h101 hc103) (fun h104 h105 => And.intro (fun hc106 => (qAn (h104 hc106) (fun a107 h108 => And.intro a107 (qAn h108 (fun a109 h110 => And.intro a109 h110))))) (fun hc106 => (And.intro (hS.1 _ _ _ rfl) (qAn (h105 hc106) (fun a111 h112 => And.intro ⟨a111.1, a111.2, hS.2 _ _ _ rfl a111.1 a111.2⟩ (And.intro rfl (qEi.go h112 (qLq d rfl) (fun v113 M114 h115 => (qAn h115 (fun a116 h117 => And.intro a116 (qAn h117 (fun a118 h119 => And.intro a118 h119)))))))))))))) (fun hc103 => ⟨x3, M, rfl, rfl, (h102 hc103)⟩)))
theorem w7 {d : Nat} {h : qH} (hS : qSe h) {x0 : Int} {x1 : Int} {x2 : Int} {M : qM} {f : Int → qM → Prop} (H :
    b7_5 d h f x0 x1 x2 0 0 M) : e7 (d + 2) h x0 x1 x2 M f :=
  qJ.body (Nat.le_of_ble_eq_true rfl) (qWq (fun pc => Nat.beq pc 5) 300 H)
theorem w8_4 {d : Nat} {h : qH} (hS : qSe h) {f : Int → qM → Prop} {x0 : Int} {x1 : Int} {x2 : Int} {x3 : Int} {M : qM} (H :
    ((x3 < (M 1 x0 1) →
    ((x3 = x1 →
      (qIn (x3 + 1) ∧ b8_4 d h f x0 x1 (qOr x2 0) (x3 + 1) M)) ∧
      (¬ (x3 = x1) →
      ((0 ≤ x3 ∧ x3 < 10) ∧ e49 (d + 1) h (1 + 10 * x0 + x3) M (fun v111 M112 => 
        (qIn (x3 + 1) ∧ b8_4 d h f x0 x1 (qOr x2 v111) (x3 + 1) M112)))))) ∧
    (¬ (x3 < (M 1 x0 1)) →
    f x2 M))) : b8_4 d h f x0 x1 x2 x3 M :=
  qWq (fun pc => Nat.beq pc 4) 300 (qAn H (fun h101 h102 => And.intro (fun hc103 => (qAn (h101 hc103) (fun h104 h105 => And.intro (fun hc106 => (qAn (h104 hc106) (fun a107 h108 => And.intro a107 h108))) (fun hc106 => (And.intro (hS.1 _ _ _ rfl) (qAn (h105 hc106) (fun a109 h110 => And.intro ⟨a109.1, a109.2, hS.2 _ _ _ rfl a109.1 a109.2⟩ (And.intro rfl (qEi.go h110 (qLq d rfl) (fun v111 M112 h113 => (qAn h113 (fun a114 h115 => And.intro a114 h115)))))))))))) (fun hc103 => ⟨x2, M, rfl, rfl, (h102 hc103)⟩)))
theorem w8 {d : Nat} {h : qH} (hS : qSe h) {x0 : Int} {x1 : Int} {M : qM} {f : Int → qM → Prop} (H :
    b8_4 d h f x0 x1 0 0 M) : e8 (d + 2) h x0 x1 M f :=
  qJ.body (Nat.le_of_ble_eq_true rfl) (qWq (fun pc => Nat.beq pc 4) 300 H)
theorem w9_4 {d : Nat} {h : qH} (hS : qSe h) {f : Int → qM → Prop} {x0 : Int} {x1 : Int} {x2 : Int} {M : qM} (H :
    ((x2 < (M 1 x0 1) →
    ((0 ≤ x2 ∧ x2 < 10) ∧ (∀ x106 : Int, x106 = (if (M 5 (1 + 10 * x0 + x2) 0) = 0 then 0 else 1) → (qIn (x1 + x106) ∧ (qIn (x2 + 1) ∧ b9_4 d h f x0 (x1 + x106) (x2 + 1) M))))) ∧
    (¬ (x2 < (M 1 x0 1)) →
    f x1 M))) : b9_4 d h f x0 x1 x2 M :=
  qWq (fun pc => Nat.beq pc 4 || Nat.beq pc 30) 300 (qAn H (fun h101 h102 => And.intro (fun hc103 => (And.intro (hS.1 _ _ _ rfl) (qAn (h101 hc103) (fun a104 h105 => And.intro ⟨a104.1, a104.2, hS.2 _ _ _ rfl a104.1 a104.2⟩ (have k112 : ∀ (x106 : Int), (qIn (x1 + x106) ∧ (qIn (x2 + 1) ∧ b9_4 d h f x0 (x1 + x106) (x2 + 1) M)) → qG (d + 0) (-1, fun _ => 0) (qP 9) (qRi h f) 30 [.inr (.inl (some (1, x0))), .inl x1, .inl x2] [.inl x106, .inl x1] (h, M) := fun x106 h107 => qWq (fun pc => Nat.beq pc 4 || Nat.beq pc 30) 300 (qAn h107 (fun a108 h109 => And.intro a108 (qAn h109 (fun a110 h111 => And.intro a110 h111)))); (And.intro (fun hc113 => (k112 0 (h105 0 (if_pos hc113).symm))) (fun hc113 => (k112 1 (h105 1 (if_neg hc113).symm))))))))) (fun hc103 => ⟨x1, M, rfl, rfl, (h102 hc103)⟩)))
theorem w9 {d : Nat} {h : qH} (hS : qSe h) {x0 : Int} {M : qM} {f : Int → qM → Prop} (H :
    b9_4 d h f x0 0 0 M) : e9 (d + 1) h x0 M f :=
  qJ.body (Nat.le_of_ble_eq_true rfl) (qWq (fun pc => Nat.beq pc 4) 300 H)
theorem w11_35 {d : Nat} {h : qH} (hS : qSe h) {f : Int → qM → Prop} {u1 : qV} {u2 : qV} {u3 : qV} {x4 : Int} {x5 : Int} {M : qM} (H :
    ((x5 < 12 →
    ((x4 < 0 →
      e16 (d + 6) h x5 M (fun v107 M108 => 
        ((v107 = 0 →
        f (-1) M108) ∧
        (¬ (v107 = 0) →
        (qIn (x5 + 1) ∧ ((0 ≤ (x5 + 1) ∧ (x5 + 1) < 13) ∧ e23 (d + 3) h (x5 + 1) M108 (fun M118 => 
          (qIn (x5 + 1) ∧ ((0 ≤ (x5 + 1) ∧ (x5 + 1) < 13) ∧ e24 (d + 1) h (x5 + 1) x5 M118 (fun v124 M125 => 
          ((v124 = x5 →
          (qIn (x5 + 1) ∧ f (x5 + 1) M125)) ∧
          (¬ (v124 = x5) →
          (qIn (x5 + 1) ∧ b11_35 d h f (u1) (u2) (u3) v124 (x5 + 1) M125))))))))))))) ∧
      (¬ (x4 < 0) →
      b11_106 d h f (u1) (u2) (u3) x4 x5 M))) ∧
    (¬ (x5 < 12) →
    b11_106 d h f (u1) (u2) (u3) x4 x5 M))) : b11_35 d h f u1 u2 u3 x4 x5 M :=
  qWq (fun pc => Nat.beq pc 35 || Nat.beq pc 106) 300 (qAn H (fun h101 h102 => And.intro (fun hc103 => (qAn (h101 hc103) (fun h104 h105 => And.intro (fun hc106 => (And.intro rfl (qEi.go (h104 hc106) (qLq d rfl) (fun v107 M108 h109 => (qAn h109 (fun h110 h111 => And.intro (fun hc112 => ⟨(-1), M108, rfl, rfl, (h110 hc112)⟩) (fun hc112 => (And.intro (hS.1 _ _ _ rfl) (qAn (h111 hc112) (fun a113 h114 => And.intro a113 (qAn h114 (fun a115 h116 => And.intro ⟨a115.1, a115.2, hS.2 _ _ _ rfl a115.1 a115.2⟩ (And.intro rfl (qEv.go h116 (qLq d rfl) (fun M118 h119 => (And.intro (hS.1 _ _ _ rfl) (qAn h119 (fun a120 h121 => And.intro a120 (qAn h121 (fun a122 h123 => And.intro ⟨a122.1, a122.2, hS.2 _ _ _ rfl a122.1 a122.2⟩ (And.intro rfl (qEi.go h123 (qLq d rfl) (fun v124 M125 h126 => (qAn h126 (fun h127 h128 => And.intro (fun hc129 => (qAn (h127 hc129) (fun a130 h131 => And.intro a130 ⟨(x5 + 1), M125, rfl, rfl, h131⟩))) (fun hc129 => (qAn (h128 hc129) (fun a132 h133 => And.intro a132 h133)))))))))))))))))))))))))))) (fun hc106 => (h105 hc106))))) (fun hc103 => (h102 hc103))))
theorem w11_106 {d : Nat} {h : qH} (hS : qSe h) {f : Int → qM → Prop} {u1 : qV} {u2 : qV} {u3 : qV} {x4 : Int} {x5 : Int} {M : qM} (H :
    (∀ x101 : Int, x101 = (if x4 < 0 then 0 else x4) → e12 (d + 2) h x101 x5 M (fun M104 => 
    e16 (d + 6) h x5 M104 (fun v106 M107 => 
    ((v106 = 0 ∨ v106 = 1) ∧ ∀ M109, M109 = qU M107 2 0 10 v106 → ((¬ ((M109 2 0 10) = 0) → qIn (x5 + 1)) ∧
    (∀ x112 : Int, x112 = (if (M109 2 0 10) = 0 then (-1) else (x5 + 1)) → f x112 M109))))))) : b11_106 d h f u1 u2 u3 x4 x5 M :=
  qWq (fun pc => Nat.beq pc 35 || Nat.beq pc 106 || Nat.beq pc 118 || Nat.beq pc 148) 300 (have k118 : ∀ (x101 : Int), e12 (d + 2) h x101 x5 M (fun M104 =>  e16 (d + 6) h x5 M104 (fun v106 M107 =>  ((v106 = 0 ∨ v106 = 1) ∧ ∀ M109, M109 = qU M107 2 0 10 v106 → ((¬ ((M109 2 0 10) = 0) → qIn (x5 + 1)) ∧ (∀ x112 : Int, x112 = (if (M109 2 0 10) = 0 then (-1) else (x5 + 1)) → f x112 M109))))) → qG (d + 6) (-1, fun _ => 0) (qP 11) (qRi h f) 118 [.inr (.inl (some (2, 0))), u1, u2, u3, .inl x4, .inl x5] [.inl x101, .inr (.inl (some (2, 0)))] (h, M) := fun x101 h102 => qWq (fun pc => Nat.beq pc 35 || Nat.beq pc 106 || Nat.beq pc 118 || Nat.beq pc 148) 300 (And.intro rfl (qEv.go h102 (qLq d rfl) (fun M104 h105 => (And.intro rfl (qEi.go h105 (qLq d rfl) (fun v106 M107 h108 => (qAn h108 (fun a110 h111 => And.intro a110 (qAn (h111 _ rfl) (fun h115 h116 => (have k114 : ∀ (x112 : Int), f x112 (qU M107 2 0 10 v106) → qG (d + 6) (-1, fun _ => 0) (qP 11) (qRi h f) 148 [.inr (.inl (some (2, 0))), u1, u2, u3, .inl x4, .inl x5] [.inl x112] (h, (qU M107 2 0 10 v106)) := fun x112 h113 => qWq (fun pc => Nat.beq pc 35 || Nat.beq pc 106 || Nat.beq pc 118 || Nat.beq pc 148) 300 ⟨x112, (qU M107 2 0 10 v106), rfl, rfl, h113⟩; (And.intro (fun hc117 => (k114 (-1) (h116 (-1) (if_pos hc117).symm))) (fun hc117 => (And.intro (h115 hc117) (k114 (x5 + 1) (h116 (x5 + 1) (if_neg hc117).symm)))))))))))))))); (And.intro (fun hc119 => (k118 0 (H 0 (if_pos hc119).symm))) (fun hc119 => (k118 x4 (H x4 (if_neg hc119).symm)))))
theorem w11 {d : Nat} {h : qH} (hS : qSe h) {x2 : Int} {x3 : Int} {M : qM} {f : Int → qM → Prop} (H :
    (∀ M101, M101 = qU M 2 0 6 (0 + 1) → ((x2 : Int) < 1000000 ∧ ∀ M102, M102 = qU M101 2 0 7 (x2 + 1) → ((x3 : Int) < 1000000 ∧ ∀ M105, M105 = qU M102 2 0 8 (x3 + 1) → (∀ M108, M108 = qU M105 2 0 9 0 → (∀ M109, M109 = qU M108 2 0 10 0 → e14 (d + 3) h  M109 (fun M111 => 
    b11_35 d h f (.inr (.inl (some (62, 0)))) (.inr (.inl (some (3, x2)))) (.inr (.inl (some (3, x3)))) (-1) 0 M111))))))) : e11 (d + 7) h x2 x3 M f :=
  qJ.body (Nat.le_of_ble_eq_true rfl) (qWq (fun pc => Nat.beq pc 35 || Nat.beq pc 106) 300 (And.intro (by decide) (qAn (H _ rfl) (fun a103 h104 => And.intro a103 (qAn (h104 _ rfl) (fun a106 h107 => And.intro a106 (And.intro (Or.inl rfl) (And.intro rfl (qEv.go (((h107 _ rfl) _ rfl) _ rfl) (qLq d rfl) (fun M111 h112 => h112))))))))))
theorem w11n_35 {d : Nat} {h : qH} (hS : qSe h) {f : Int → qM → Prop} {u1 : qV} {u2 : qV} {u3 : qV} {x4 : Int} {x5 : Int} {M : qM} (H :
    ((x5 < 12 →
    ((x4 < 0 →
      e16 (d + 6) h x5 M (fun v107 M108 => 
        ((v107 = 0 →
        f (-1) M108) ∧
        (¬ (v107 = 0) →
        (qIn (x5 + 1) ∧ ((0 ≤ (x5 + 1) ∧ (x5 + 1) < 13) ∧ e23 (d + 3) h (x5 + 1) M108 (fun M118 => 
          (qIn (x5 + 1) ∧ ((0 ≤ (x5 + 1) ∧ (x5 + 1) < 13) ∧ e24 (d + 1) h (x5 + 1) x5 M118 (fun v124 M125 => 
          ((v124 = x5 →
          (qIn (x5 + 1) ∧ f (x5 + 1) M125)) ∧
          (¬ (v124 = x5) →
          (qIn (x5 + 1) ∧ b11n_35 d h f (u1) (u2) (u3) v124 (x5 + 1) M125))))))))))))) ∧
      (¬ (x4 < 0) →
      b11n_106 d h f (u1) (u2) (u3) x4 x5 M))) ∧
    (¬ (x5 < 12) →
    b11n_106 d h f (u1) (u2) (u3) x4 x5 M))) : b11n_35 d h f u1 u2 u3 x4 x5 M :=
  qWq (fun pc => Nat.beq pc 35 || Nat.beq pc 106) 300 (qAn H (fun h101 h102 => And.intro (fun hc103 => (qAn (h101 hc103) (fun h104 h105 => And.intro (fun hc106 => (And.intro rfl (qEi.go (h104 hc106) (qLq d rfl) (fun v107 M108 h109 => (qAn h109 (fun h110 h111 => And.intro (fun hc112 => ⟨(-1), M108, rfl, rfl, (h110 hc112)⟩) (fun hc112 => (And.intro (hS.1 _ _ _ rfl) (qAn (h111 hc112) (fun a113 h114 => And.intro a113 (qAn h114 (fun a115 h116 => And.intro ⟨a115.1, a115.2, hS.2 _ _ _ rfl a115.1 a115.2⟩ (And.intro rfl (qEv.go h116 (qLq d rfl) (fun M118 h119 => (And.intro (hS.1 _ _ _ rfl) (qAn h119 (fun a120 h121 => And.intro a120 (qAn h121 (fun a122 h123 => And.intro ⟨a122.1, a122.2, hS.2 _ _ _ rfl a122.1 a122.2⟩ (And.intro rfl (qEi.go h123 (qLq d rfl) (fun v124 M125 h126 => (qAn h126 (fun h127 h128 => And.intro (fun hc129 => (qAn (h127 hc129) (fun a130 h131 => And.intro a130 ⟨(x5 + 1), M125, rfl, rfl, h131⟩))) (fun hc129 => (qAn (h128 hc129) (fun a132 h133 => And.intro a132 h133)))))))))))))))))))))))))))) (fun hc106 => (h105 hc106))))) (fun hc103 => (h102 hc103))))
theorem w11n_106 {d : Nat} {h : qH} (hS : qSe h) {f : Int → qM → Prop} {u1 : qV} {u2 : qV} {u3 : qV} {x4 : Int} {x5 : Int} {M : qM} (H :
    (∀ x101 : Int, x101 = (if x4 < 0 then 0 else x4) → e12 (d + 2) h x101 x5 M (fun M104 => 
    e16 (d + 6) h x5 M104 (fun v106 M107 => 
    ((v106 = 0 ∨ v106 = 1) ∧ ∀ M109, M109 = qU M107 2 0 10 v106 → ((¬ ((M109 2 0 10) = 0) → qIn (x5 + 1)) ∧
    (∀ x112 : Int, x112 = (if (M109 2 0 10) = 0 then (-1) else (x5 + 1)) → f x112 M109))))))) : b11n_106 d h f u1 u2 u3 x4 x5 M :=
  qWq (fun pc => Nat.beq pc 35 || Nat.beq pc 106 || Nat.beq pc 118 || Nat.beq pc 148) 300 (have k118 : ∀ (x101 : Int), e12 (d + 2) h x101 x5 M (fun M104 =>  e16 (d + 6) h x5 M104 (fun v106 M107 =>  ((v106 = 0 ∨ v106 = 1) ∧ ∀ M109, M109 = qU M107 2 0 10 v106 → ((¬ ((M109 2 0 10) = 0) → qIn (x5 + 1)) ∧ (∀ x112 : Int, x112 = (if (M109 2 0 10) = 0 then (-1) else (x5 + 1)) → f x112 M109))))) → qG (d + 6) (-1, fun _ => 0) (qP 11) (qRi h f) 118 [.inr (.inl (some (2, 0))), u1, u2, u3, .inl x4, .inl x5] [.inl x101, .inr (.inl (some (2, 0)))] (h, M) := fun x101 h102 => qWq (fun pc => Nat.beq pc 35 || Nat.beq pc 106 || Nat.beq pc 118 || Nat.beq pc 148) 300 (And.intro rfl (qEv.go h102 (qLq d rfl) (fun M104 h105 => (And.intro rfl (qEi.go h105 (qLq d rfl) (fun v106 M107 h108 => (qAn h108 (fun a110 h111 => And.intro a110 (qAn (h111 _ rfl) (fun h115 h116 => (have k114 : ∀ (x112 : Int), f x112 (qU M107 2 0 10 v106) → qG (d + 6) (-1, fun _ => 0) (qP 11) (qRi h f) 148 [.inr (.inl (some (2, 0))), u1, u2, u3, .inl x4, .inl x5] [.inl x112] (h, (qU M107 2 0 10 v106)) := fun x112 h113 => qWq (fun pc => Nat.beq pc 35 || Nat.beq pc 106 || Nat.beq pc 118 || Nat.beq pc 148) 300 ⟨x112, (qU M107 2 0 10 v106), rfl, rfl, h113⟩; (And.intro (fun hc117 => (k114 (-1) (h116 (-1) (if_pos hc117).symm))) (fun hc117 => (And.intro (h115 hc117) (k114 (x5 + 1) (h116 (x5 + 1) (if_neg hc117).symm)))))))))))))))); (And.intro (fun hc119 => (k118 0 (H 0 (if_pos hc119).symm))) (fun hc119 => (k118 x4 (H x4 (if_neg hc119).symm)))))
theorem w11n {d : Nat} {h : qH} (hS : qSe h) {x2 : Int} {M : qM} {f : Int → qM → Prop} (H :
    (∀ M101, M101 = qU M 2 0 6 (0 + 1) → ((x2 : Int) < 1000000 ∧ ∀ M102, M102 = qU M101 2 0 7 (x2 + 1) → (∀ M105, M105 = qU M102 2 0 8 0 → (∀ M106, M106 = qU M105 2 0 9 0 → (∀ M107, M107 = qU M106 2 0 10 0 → e14 (d + 3) h  M107 (fun M109 => 
    b11n_35 d h f (.inr (.inl (some (62, 0)))) (.inr (.inl (some (3, x2)))) (.inr (.inl none)) (-1) 0 M109))))))) : e11n (d + 7) h x2 M f :=
  qJ.body (Nat.le_of_ble_eq_true rfl) (qWq (fun pc => Nat.beq pc 35 || Nat.beq pc 106) 300 (And.intro (by decide) (qAn (H _ rfl) (fun a103 h104 => And.intro a103 (And.intro (Or.inl rfl) (And.intro rfl (qEv.go ((((h104 _ rfl) _ rfl) _ rfl) _ rfl) (qLq d rfl) (fun M109 h110 => h110))))))))
theorem w12_2 {d : Nat} {h : qH} (hS : qSe h) {f : qM → Prop} {x1 : Int} {x2 : Int} {x3 : Int} {u4 : qV} {u5 : qV} {M : qM} (H :
    ((x3 < (M 2 0 3) →
    b12_16 d h f x1 x2 x3 0 x1 M) ∧
    (¬ (x3 < (M 2 0 3)) →
    f M))) : b12_2 d h f x1 x2 x3 u4 u5 M :=
  qWq (fun pc => Nat.beq pc 2 || Nat.beq pc 16) 300 (qAn H (fun h101 h102 => And.intro (fun hc103 => (h101 hc103)) (fun hc103 => (And.intro rfl ⟨M, rfl, rfl, (h102 hc103)⟩))))
theorem w12_16 {d : Nat} {h : qH} (hS : qSe h) {f : qM → Prop} {x1 : Int} {x2 : Int} {x3 : Int} {x4 : Int} {x5 : Int} {M : qM} (H :
    ((x5 < x2 →
    ((0 ≤ x5 ∧ x5 < 13) ∧ ((0 ≤ x3 ∧ x3 < 180) ∧ e264 (d + 1) h x4 (M 18 x5 x3) M (fun v108 M109 => 
      (qIn (x5 + 1) ∧ b12_16 d h f x1 x2 x3 v108 (x5 + 1) M109))))) ∧
    (¬ (x5 < x2) →
    ((0 ≤ x2 ∧ x2 < 13) ∧ ((0 ≤ x3 ∧ x3 < 180) ∧ ∀ M115, M115 = qU M 18 x2 x3 x4 → (qIn (x3 + 1) ∧ b12_2 d h f x1 x2 (x3 + 1) (.inl x4) (.inl x5) M115)))))) : b12_16 d h f x1 x2 x3 x4 x5 M :=
  qWq (fun pc => Nat.beq pc 2 || Nat.beq pc 16) 300 (qAn H (fun h101 h102 => And.intro (fun hc103 => (And.intro (hS.1 _ _ _ rfl) (qAn (h101 hc103) (fun a104 h105 => And.intro ⟨a104.1, a104.2, hS.2 _ _ _ rfl a104.1 a104.2⟩ (qAn h105 (fun a106 h107 => And.intro a106 (And.intro rfl (qEi.go h107 (qLq d rfl) (fun v108 M109 h110 => (qAn h110 (fun a111 h112 => And.intro a111 h112))))))))))) (fun hc103 => (And.intro (hS.1 _ _ _ rfl) (qAn (h102 hc103) (fun a113 h114 => And.intro ⟨a113.1, a113.2, hS.2 _ _ _ rfl a113.1 a113.2⟩ (qAn h114 (fun a116 h117 => And.intro a116 (qAn (h117 _ rfl) (fun a118 h119 => And.intro a118 h119))))))))))
theorem w12 {d : Nat} {h : qH} (hS : qSe h) {x1 : Int} {x2 : Int} {M : qM} {f : qM → Prop} (H :
    b12_2 d h f x1 x2 0 (q_u) (q_u) M) : e12 (d + 2) h x1 x2 M f :=
  qJ.body (Nat.le_of_ble_eq_true rfl) (qWq (fun pc => Nat.beq pc 2 || Nat.beq pc 16) 300 H)
theorem w13 {d : Nat} {h : qH} (hS : qSe h) {x1 : Int} {M : qM} {f : Int → qM → Prop} (H :
    ((M 2 0 6 = 0 → False) ∧ (0 < M 2 0 6 → (0 ≤ x1 ∧ (0 ≤ (x1 / 20) ∧ ((0 ≤ ((x1 / 20) / 10) ∧ ((x1 / 20) / 10) < 3) ∧ (0 ≤ x1 ∧ (0 ≤ (x1 / 20) ∧ ((0 ≤ ((x1 / 20) % 10) ∧ ((x1 / 20) % 10) < 10) ∧ f (1 + 10 * ((x1 / 20) / 10) + ((x1 / 20) % 10)) M))))))) ∧ (M 2 0 6 < 0 → (0 ≤ x1 ∧ (0 ≤ (x1 / 20) ∧ ((0 ≤ ((x1 / 20) / 10) ∧ ((x1 / 20) / 10) < 0) ∧ (0 ≤ x1 ∧ (0 ≤ (x1 / 20) ∧ ((0 ≤ ((x1 / 20) % 10) ∧ ((x1 / 20) % 10) < 10) ∧ f (1 + 10 * ((x1 / 20) / 10) + ((x1 / 20) % 10)) M))))))))) : e13 (d + 1) h x1 M f :=
  qJ.body (Nat.le_of_ble_eq_true rfl) (qWq (fun pc => false) 300 (qAn3 H (fun h101 h102 h103 => And.intro (fun hc104 => (h101 hc104).elim) (And.intro (fun hc104 => (qAn (h102 hc104) (fun a109 h110 => And.intro ⟨a109, by decide⟩ (qAn h110 (fun a111 h112 => And.intro ⟨a111, by decide⟩ (qAn h112 (fun a113 h114 => And.intro ⟨a113.1, a113.2, hS.2 _ _ _ rfl a113.1 a113.2⟩ (And.intro (hS.1 _ _ _ rfl) (qAn h114 (fun a115 h116 => And.intro ⟨a115, by decide⟩ (qAn h116 (fun a117 h118 => And.intro ⟨a117, by decide⟩ (qAn h118 (fun a119 h120 => And.intro ⟨a119.1, a119.2, hS.2 _ _ _ rfl a119.1 a119.2⟩ (And.intro rfl ⟨(1 + 10 * ((x1 / 20) / 10) + ((x1 / 20) % 10)), M, rfl, rfl, h120⟩))))))))))))))) (fun hc104 => (qAn (h103 hc104) (fun a121 h122 => And.intro ⟨a121, by decide⟩ (qAn h122 (fun a123 h124 => And.intro ⟨a123, by decide⟩ (qAn h124 (fun a125 h126 => And.intro ⟨a125.1, a125.2, hS.2 _ _ _ rfl a125.1 a125.2⟩ (And.intro (hS.1 _ _ _ rfl) (qAn h126 (fun a127 h128 => And.intro ⟨a127, by decide⟩ (qAn h128 (fun a129 h130 => And.intro ⟨a129, by decide⟩ (qAn h130 (fun a131 h132 => And.intro ⟨a131.1, a131.2, hS.2 _ _ _ rfl a131.1 a131.2⟩ (And.intro rfl ⟨(1 + 10 * ((x1 / 20) / 10) + ((x1 / 20) % 10)), M, rfl, rfl, h132⟩)))))))))))))))))))
theorem w14_7 {d : Nat} {h : qH} (hS : qSe h) {f : qM → Prop} {x1 : Int} {u2 : qV} {u3 : qV} {u4 : qV} {u5 : qV} {M : qM} (H :
    ((x1 < 3 →
    b14_16 d h f x1 0 0 (u4) (u5) M) ∧
    (¬ (x1 < 3) →
    f M))) : b14_7 d h f x1 u2 u3 u4 u5 M :=
  qWq (fun pc => Nat.beq pc 7 || Nat.beq pc 16 || Nat.beq pc 45) 300 (qAn H (fun h101 h102 => And.intro (fun hc103 => (h101 hc103)) (fun hc103 => (And.intro rfl ⟨M, rfl, rfl, (h102 hc103)⟩))))
theorem w14_16 {d : Nat} {h : qH} (hS : qSe h) {f : qM → Prop} {x1 : Int} {x2 : Int} {x3 : Int} {u4 : qV} {u5 : qV} {M : qM} (H :
    ((M 2 0 6 = 0 → False) ∧ (0 < M 2 0 6 → ((0 ≤ x1 ∧ x1 < 3) ∧ ((x3 < (M 1 x1 1) →
      ((M 2 0 6 = 0 → False) ∧ (0 < M 2 0 6 → ((0 ≤ x1 ∧ x1 < 3) ∧ ((0 ≤ x3 ∧ x3 < 10) ∧ b14_45 d h f x1 x2 x3 (1 + 10 * x1 + x3) 0 M))) ∧ (M 2 0 6 < 0 → ((0 ≤ x1 ∧ x1 < 0) ∧ ((0 ≤ x3 ∧ x3 < 10) ∧ b14_45 d h f x1 x2 x3 (1 + 10 * x1 + x3) 0 M))))) ∧
      (¬ (x3 < (M 1 x1 1)) →
      (qIn (x1 + 1) ∧ b14_7 d h f (x1 + 1) (.inl x2) (.inl x3) (u4) (u5) M))))) ∧ (M 2 0 6 < 0 → ((0 ≤ x1 ∧ x1 < 0) ∧ ((x3 < (M 1 x1 1) →
      ((M 2 0 6 = 0 → False) ∧ (0 < M 2 0 6 → ((0 ≤ x1 ∧ x1 < 3) ∧ ((0 ≤ x3 ∧ x3 < 10) ∧ b14_45 d h f x1 x2 x3 (1 + 10 * x1 + x3) 0 M))) ∧ (M 2 0 6 < 0 → ((0 ≤ x1 ∧ x1 < 0) ∧ ((0 ≤ x3 ∧ x3 < 10) ∧ b14_45 d h f x1 x2 x3 (1 + 10 * x1 + x3) 0 M))))) ∧
      (¬ (x3 < (M 1 x1 1)) →
      (qIn (x1 + 1) ∧ b14_7 d h f (x1 + 1) (.inl x2) (.inl x3) (u4) (u5) M))))))) : b14_16 d h f x1 x2 x3 u4 u5 M :=
  qWq (fun pc => Nat.beq pc 7 || Nat.beq pc 16 || Nat.beq pc 45) 300 (qAn3 H (fun h101 h102 h103 => And.intro (fun hc104 => (h101 hc104).elim) (And.intro (fun hc104 => (qAn (h102 hc104) (fun a105 h106 => And.intro ⟨a105.1, a105.2, hS.2 _ _ _ rfl a105.1 a105.2⟩ (qAn h106 (fun h107 h108 => And.intro (fun hc109 => (qAn3 (h107 hc109) (fun h110 h111 h112 => And.intro (fun hc113 => (h110 hc113).elim) (And.intro (fun hc113 => (qAn (h111 hc113) (fun a114 h115 => And.intro ⟨a114.1, a114.2, hS.2 _ _ _ rfl a114.1 a114.2⟩ (And.intro (hS.1 _ _ _ rfl) (qAn h115 (fun a116 h117 => And.intro ⟨a116.1, a116.2, hS.2 _ _ _ rfl a116.1 a116.2⟩ h117)))))) (fun hc113 => (qAn (h112 hc113) (fun a118 h119 => And.intro ⟨a118.1, a118.2, hS.2 _ _ _ rfl a118.1 a118.2⟩ (And.intro (hS.1 _ _ _ rfl) (qAn h119 (fun a120 h121 => And.intro ⟨a120.1, a120.2, hS.2 _ _ _ rfl a120.1 a120.2⟩ h121)))))))))) (fun hc109 => (qAn (h108 hc109) (fun a122 h123 => And.intro a122 h123)))))))) (fun hc104 => (qAn (h103 hc104) (fun a124 h125 => And.intro ⟨a124.1, a124.2, hS.2 _ _ _ rfl a124.1 a124.2⟩ (qAn h125 (fun h126 h127 => And.intro (fun hc128 => (qAn3 (h126 hc128) (fun h129 h130 h131 => And.intro (fun hc132 => (h129 hc132).elim) (And.intro (fun hc132 => (qAn (h130 hc132) (fun a133 h134 => And.intro ⟨a133.1, a133.2, hS.2 _ _ _ rfl a133.1 a133.2⟩ (And.intro (hS.1 _ _ _ rfl) (qAn h134 (fun a135 h136 => And.intro ⟨a135.1, a135.2, hS.2 _ _ _ rfl a135.1 a135.2⟩ h136)))))) (fun hc132 => (qAn (h131 hc132) (fun a137 h138 => And.intro ⟨a137.1, a137.2, hS.2 _ _ _ rfl a137.1 a137.2⟩ (And.intro (hS.1 _ _ _ rfl) (qAn h138 (fun a139 h140 => And.intro ⟨a139.1, a139.2, hS.2 _ _ _ rfl a139.1 a139.2⟩ h140)))))))))) (fun hc128 => (qAn (h127 hc128) (fun a141 h142 => And.intro a141 h142)))))))))))
theorem w14_45 {d : Nat} {h : qH} (hS : qSe h) {f : qM → Prop} {x1 : Int} {x2 : Int} {x3 : Int} {x4 : Int} {x5 : Int} {M : qM} (H :
    ((x5 < (M 5 x4 2) →
    ((0 ≤ x5 ∧ x5 < 20) ∧ (((M 33 x4 x5) = 2 →
      (qIn (x2 + 1) ∧ e147 (d + 1) h x1 x3 x5 M (fun v111 M112 => 
        ((M112 2 0 7 = 0 → False) ∧ (0 < M112 2 0 7 → (((M112 3 (M112 2 0 7 - 1) 2) = 0 →
          e148 (d + 1) h (x2 + 1) M112 (fun v121 M122 => 
            e15 (d + 1) h v111 v121 M122 (fun M125 => 
            (qIn (x5 + 1) ∧ b14_45 d h f x1 (x2 + 1) x3 x4 (x5 + 1) M125)))) ∧
          (¬ ((M112 3 (M112 2 0 7 - 1) 2) = 0) →
          e15 (d + 1) h v111 1 M112 (fun M130 => 
            (qIn (x5 + 1) ∧ b14_45 d h f x1 (x2 + 1) x3 x4 (x5 + 1) M130))))) ∧ (M112 2 0 7 < 0 → False))))) ∧
      (¬ ((M 33 x4 x5) = 2) →
      ((0 ≤ x5 ∧ x5 < 20) ∧ (((M 33 x4 x5) = 6 →
        e147 (d + 1) h x1 x3 x5 M (fun v139 M140 => 
          e149 (d + 2) h 0 M140 (fun v142 M143 => 
          e15 (d + 1) h v139 v142 M143 (fun M146 => 
          (qIn (x5 + 1) ∧ b14_45 d h f x1 x2 x3 x4 (x5 + 1) M146))))) ∧
        (¬ ((M 33 x4 x5) = 6) →
        (qIn (x5 + 1) ∧ b14_45 d h f x1 x2 x3 x4 (x5 + 1) M)))))))) ∧
    (¬ (x5 < (M 5 x4 2)) →
    (qIn (x3 + 1) ∧ b14_16 d h f x1 x2 (x3 + 1) (.inr (.inl (some (5, x4)))) (.inl x5) M)))) : b14_45 d h f x1 x2 x3 x4 x5 M :=
  qWq (fun pc => Nat.beq pc 7 || Nat.beq pc 16 || Nat.beq pc 45) 300 (qAn H (fun h101 h102 => And.intro (fun hc103 => (And.intro (hS.1 _ _ _ rfl) (qAn (h101 hc103) (fun a104 h105 => And.intro a104 (qAn h105 (fun h106 h107 => And.intro (fun hc108 => (qAn (h106 hc108) (fun a109 h110 => And.intro a109 (And.intro rfl (qEi.go h110 (qLq d rfl) (fun v111 M112 h113 => (qAn3 h113 (fun h114 h115 h116 => And.intro (fun hc117 => (h114 hc117).elim) (And.intro (fun hc117 => (qAn (h115 hc117) (fun h118 h119 => And.intro (fun hc120 => (And.intro rfl (qEi.go (h118 hc120) (qLq d rfl) (fun v121 M122 h123 => (And.intro rfl (qEv.go h123 (qLq d rfl) (fun M125 h126 => (qAn h126 (fun a127 h128 => And.intro a127 h128))))))))) (fun hc120 => (And.intro rfl (qEv.go (h119 hc120) (qLq d rfl) (fun M130 h131 => (qAn h131 (fun a132 h133 => And.intro a132 h133))))))))) (fun hc117 => (h116 hc117).elim)))))))))) (fun hc108 => (And.intro (hS.1 _ _ _ rfl) (qAn (h107 hc108) (fun a134 h135 => And.intro a134 (qAn h135 (fun h136 h137 => And.intro (fun hc138 => (And.intro rfl (qEi.go (h136 hc138) (qLq d rfl) (fun v139 M140 h141 => (And.intro rfl (qEi.go h141 (qLq d rfl) (fun v142 M143 h144 => (And.intro rfl (qEv.go h144 (qLq d rfl) (fun M146 h147 => (qAn h147 (fun a148 h149 => And.intro a148 h149)))))))))))) (fun hc138 => (qAn (h137 hc138) (fun a150 h151 => And.intro a150 h151))))))))))))))) (fun hc103 => (qAn (h102 hc103) (fun a152 h153 => And.intro a152 h153)))))
theorem w14 {d : Nat} {h : qH} (hS : qSe h)  {M : qM} {f : qM → Prop} (H :
    (∀ M101, M101 = qU M 2 0 3 0 → b14_7 d h f 0 (q_u) (q_u) (q_u) (q_u) M101)) : e14 (d + 3) h  M f :=
  qJ.body (Nat.le_of_ble_eq_true rfl) (qWq (fun pc => Nat.beq pc 7 || Nat.beq pc 16 || Nat.beq pc 45) 300 (H _ rfl))
theorem w15 {d : Nat} {h : qH} (hS : qSe h) {x1 : Int} {x2 : Int} {M : qM} {f : qM → Prop} (H :
    (((M 2 0 3) < 180 →
    ((0 ≤ (M 2 0 3) ∧ (M 2 0 3) < 180) ∧ ∀ M104, M104 = qU M 16 0 (M 2 0 3) x1 → ((0 ≤ (M104 2 0 3) ∧ (M104 2 0 3) < 180) ∧ ∀ M107, M107 = qU M104 18 0 (M104 2 0 3) x2 → (qIn ((M107 2 0 3) + 1) ∧ (∀ M112, M112 = qU M107 2 0 3 ((M107 2 0 3) + 1) → f M112))))) ∧
    (¬ ((M 2 0 3) < 180) →
    f M))) : e15 (d + 1) h x1 x2 M f :=
  qJ.body (Nat.le_of_ble_eq_true rfl) (qWq (fun pc => false) 300 (qAn H (fun h101 h102 => And.intro (fun hc103 => (And.intro (hS.1 _ _ _ rfl) (qAn (h101 hc103) (fun a105 h106 => And.intro a105 (And.intro (hS.1 _ _ _ rfl) (And.intro ⟨by decide, by decide, hS.2 _ _ _ rfl (by decide) (by decide)⟩ (qAn (h106 _ rfl) (fun a108 h109 => And.intro a108 (qAn (h109 _ rfl) (fun a110 h111 => And.intro a110 (And.intro rfl ⟨(qU (qU (qU M 16 0 (M 2 0 3) x1) 18 0 ((qU M 16 0 (M 2 0 3) x1) 2 0 3) x2) 2 0 3 (((qU (qU M 16 0 (M 2 0 3) x1) 18 0 ((qU M 16 0 (M 2 0 3) x1) 2 0 3) x2) 2 0 3) + 1)), rfl, rfl, (h111 _ rfl)⟩))))))))))) (fun hc103 => (And.intro rfl ⟨M, rfl, rfl, (h102 hc103)⟩)))))
theorem w16_2 {d : Nat} {h : qH} (hS : qSe h) {f : Int → qM → Prop} {x1 : Int} {x2 : Int} {u3 : qV} {u4 : qV} {u5 : qV} {M : qM} (H :
    ((x2 < (M 2 0 3) →
    ((0 ≤ x2 ∧ x2 < 180) ∧ e13 (d + 1) h (M 16 0 x2) M (fun v106 M107 => 
      ((0 ≤ x2 ∧ x2 < 180) ∧ (0 ≤ (M107 16 0 x2) ∧ ((0 ≤ x1 ∧ x1 < 13) ∧ ((0 ≤ x2 ∧ x2 < 180) ∧ ((0 ≤ ((M107 16 0 x2) % 20) ∧ ((M107 16 0 x2) % 20) < 20) ∧ ∀ M117, M117 = qU M107 35 v106 ((M107 16 0 x2) % 20) (M107 18 x1 x2) → (qIn (x2 + 1) ∧ b16_2 d h f x1 (x2 + 1) (u3) (u4) (u5) M117))))))))) ∧
    (¬ (x2 < (M 2 0 3)) →
    e17 (d + 4) h  M (fun v122 M123 => 
      ((M123 2 0 7 = 0 → ((M123 2 0 7 = 0 → False) ∧ (0 < M123 2 0 7 → False) ∧ (M123 2 0 7 < 0 → False))) ∧ (0 < M123 2 0 7 → ((M123 2 0 7 = 0 → False) ∧ (0 < M123 2 0 7 → (∀ M137, M137 = qU M123 3 (M123 2 0 7 - 1) 4 (M123 3 (M123 2 0 7 - 1) 3) → b16_68 d h f x1 v122 0 (u4) (u5) M137)) ∧ (M123 2 0 7 < 0 → False))) ∧ (M123 2 0 7 < 0 → ((M123 2 0 7 = 0 → False) ∧ (0 < M123 2 0 7 → False) ∧ (M123 2 0 7 < 0 → False)))))))) : b16_2 d h f x1 x2 u3 u4 u5 M :=
  qWq (fun pc => Nat.beq pc 2 || Nat.beq pc 68 || Nat.beq pc 139 || Nat.beq pc 158 || Nat.beq pc 189) 300 (qAn H (fun h101 h102 => And.intro (fun hc103 => (And.intro (hS.1 _ _ _ rfl) (qAn (h101 hc103) (fun a104 h105 => And.intro a104 (And.intro rfl (qEr.go h105 (qLq d rfl) (fun v106 M107 h108 => (And.intro (hS.1 _ _ _ rfl) (And.intro (hS.1 _ _ _ rfl) (qAn h108 (fun a109 h110 => And.intro a109 (qAn h110 (fun a111 h112 => And.intro ⟨a111, by decide⟩ (And.intro (hS.1 _ _ _ rfl) (qAn h112 (fun a113 h114 => And.intro ⟨a113.1, a113.2, hS.2 _ _ _ rfl a113.1 a113.2⟩ (qAn h114 (fun a115 h116 => And.intro a115 (qAn h116 (fun a118 h119 => And.intro a118 (qAn (h119 _ rfl) (fun a120 h121 => And.intro a120 h121)))))))))))))))))))))) (fun hc103 => (And.intro rfl (qEi.go (h102 hc103) (qLq d rfl) (fun v122 M123 h124 => (qAn3 h124 (fun h125 h126 h127 => And.intro (fun hc128 => (qAn3 (h125 hc128) (fun h129 h130 h131 => And.intro (fun hc132 => (h129 hc132).elim) (And.intro (fun hc132 => (h130 hc132).elim) (fun hc132 => (h131 hc132).elim))))) (And.intro (fun hc128 => (qAn3 (h126 hc128) (fun h133 h134 h135 => And.intro (fun hc136 => (h133 hc136).elim) (And.intro (fun hc136 => ((h134 hc136) _ rfl)) (fun hc136 => (h135 hc136).elim))))) (fun hc128 => (qAn3 (h127 hc128) (fun h138 h139 h140 => And.intro (fun hc141 => (h138 hc141).elim) (And.intro (fun hc141 => (h139 hc141).elim) (fun hc141 => (h140 hc141).elim))))))))))))))
theorem w16_68 {d : Nat} {h : qH} (hS : qSe h) {f : Int → qM → Prop} {x1 : Int} {x2 : Int} {x3 : Int} {u4 : qV} {u5 : qV} {M : qM} (H :
    ((x3 < 3 →
    ((M 2 0 6 = 0 → False) ∧ (0 < M 2 0 6 → ((0 ≤ x3 ∧ x3 < 3) ∧ (((M 1 x3 1) ≤ 0 →
        ((x1 = 0 →
          b16_139 d h f x1 x2 x3 0 (u5) M) ∧
          (¬ (x1 = 0) →
          ((0 ≤ (x2 : Int) ∧ 0 ≤ x3 ∧ x3 < 31) ∧ (((qAnd (x2 / 2 ^ (x3).toNat) 1) = 0 →
            ((M 2 0 7 = 0 → False) ∧ (0 < M 2 0 7 → ((0 ≤ x3 ∧ x3 < 3) ∧ (((M 8 (0 + 3 * (M 2 0 7 - 1) + x3) 0) = 0 →
                b16_158 d h f x1 x2 x3 0 0 M) ∧
                (¬ ((M 8 (0 + 3 * (M 2 0 7 - 1) + x3) 0) = 0) →
                b16_139 d h f x1 x2 x3 0 (u5) M)))) ∧ (M 2 0 7 < 0 → False))) ∧
            (¬ ((qAnd (x2 / 2 ^ (x3).toNat) 1) = 0) →
            b16_139 d h f x1 x2 x3 0 (u5) M)))))) ∧
        (¬ ((M 1 x3 1) ≤ 0) →
        ((M 2 0 7 = 0 → False) ∧ (0 < M 2 0 7 → (qIn ((M 3 (M 2 0 7 - 1) 4) + 1) ∧ ((M 2 0 7 = 0 → False) ∧ (0 < M 2 0 7 → (0 ≤ (M 3 (M 2 0 7 - 1) 4) ∧ (qIn (((M 3 (M 2 0 7 - 1) 4) + 1) + ((M 3 (M 2 0 7 - 1) 4) % 2)) ∧ ((x1 = 0 →
              b16_139 d h f x1 x2 x3 (((M 3 (M 2 0 7 - 1) 4) + 1) + ((M 3 (M 2 0 7 - 1) 4) % 2)) (u5) M) ∧
              (¬ (x1 = 0) →
              ((0 ≤ (x2 : Int) ∧ 0 ≤ x3 ∧ x3 < 31) ∧ (((qAnd (x2 / 2 ^ (x3).toNat) 1) = 0 →
                ((M 2 0 7 = 0 → False) ∧ (0 < M 2 0 7 → ((0 ≤ x3 ∧ x3 < 3) ∧ (((M 8 (0 + 3 * (M 2 0 7 - 1) + x3) 0) = (((M 3 (M 2 0 7 - 1) 4) + 1) + ((M 3 (M 2 0 7 - 1) 4) % 2)) →
                    b16_158 d h f x1 x2 x3 (((M 3 (M 2 0 7 - 1) 4) + 1) + ((M 3 (M 2 0 7 - 1) 4) % 2)) 0 M) ∧
                    (¬ ((M 8 (0 + 3 * (M 2 0 7 - 1) + x3) 0) = (((M 3 (M 2 0 7 - 1) 4) + 1) + ((M 3 (M 2 0 7 - 1) 4) % 2))) →
                    b16_139 d h f x1 x2 x3 (((M 3 (M 2 0 7 - 1) 4) + 1) + ((M 3 (M 2 0 7 - 1) 4) % 2)) (u5) M)))) ∧ (M 2 0 7 < 0 → False))) ∧
                (¬ ((qAnd (x2 / 2 ^ (x3).toNat) 1) = 0) →
                b16_139 d h f x1 x2 x3 (((M 3 (M 2 0 7 - 1) 4) + 1) + ((M 3 (M 2 0 7 - 1) 4) % 2)) (u5) M)))))))) ∧ (M 2 0 7 < 0 → False)))) ∧ (M 2 0 7 < 0 → False)))))) ∧ (M 2 0 6 < 0 → ((0 ≤ x3 ∧ x3 < 0) ∧ (((M 1 x3 1) ≤ 0 →
        ((x1 = 0 →
          b16_139 d h f x1 x2 x3 0 (u5) M) ∧
          (¬ (x1 = 0) →
          ((0 ≤ (x2 : Int) ∧ 0 ≤ x3 ∧ x3 < 31) ∧ (((qAnd (x2 / 2 ^ (x3).toNat) 1) = 0 →
            ((M 2 0 7 = 0 → False) ∧ (0 < M 2 0 7 → ((0 ≤ x3 ∧ x3 < 3) ∧ (((M 8 (0 + 3 * (M 2 0 7 - 1) + x3) 0) = 0 →
                b16_158 d h f x1 x2 x3 0 0 M) ∧
                (¬ ((M 8 (0 + 3 * (M 2 0 7 - 1) + x3) 0) = 0) →
                b16_139 d h f x1 x2 x3 0 (u5) M)))) ∧ (M 2 0 7 < 0 → False))) ∧
            (¬ ((qAnd (x2 / 2 ^ (x3).toNat) 1) = 0) →
            b16_139 d h f x1 x2 x3 0 (u5) M)))))) ∧
        (¬ ((M 1 x3 1) ≤ 0) →
        ((M 2 0 7 = 0 → False) ∧ (0 < M 2 0 7 → (qIn ((M 3 (M 2 0 7 - 1) 4) + 1) ∧ ((M 2 0 7 = 0 → False) ∧ (0 < M 2 0 7 → (0 ≤ (M 3 (M 2 0 7 - 1) 4) ∧ (qIn (((M 3 (M 2 0 7 - 1) 4) + 1) + ((M 3 (M 2 0 7 - 1) 4) % 2)) ∧ ((x1 = 0 →
              b16_139 d h f x1 x2 x3 (((M 3 (M 2 0 7 - 1) 4) + 1) + ((M 3 (M 2 0 7 - 1) 4) % 2)) (u5) M) ∧
              (¬ (x1 = 0) →
              ((0 ≤ (x2 : Int) ∧ 0 ≤ x3 ∧ x3 < 31) ∧ (((qAnd (x2 / 2 ^ (x3).toNat) 1) = 0 →
                ((M 2 0 7 = 0 → False) ∧ (0 < M 2 0 7 → ((0 ≤ x3 ∧ x3 < 3) ∧ (((M 8 (0 + 3 * (M 2 0 7 - 1) + x3) 0) = (((M 3 (M 2 0 7 - 1) 4) + 1) + ((M 3 (M 2 0 7 - 1) 4) % 2)) →
                    b16_158 d h f x1 x2 x3 (((M 3 (M 2 0 7 - 1) 4) + 1) + ((M 3 (M 2 0 7 - 1) 4) % 2)) 0 M) ∧
                    (¬ ((M 8 (0 + 3 * (M 2 0 7 - 1) + x3) 0) = (((M 3 (M 2 0 7 - 1) 4) + 1) + ((M 3 (M 2 0 7 - 1) 4) % 2))) →
                    b16_139 d h f x1 x2 x3 (((M 3 (M 2 0 7 - 1) 4) + 1) + ((M 3 (M 2 0 7 - 1) 4) % 2)) (u5) M)))) ∧ (M 2 0 7 < 0 → False))) ∧
                (¬ ((qAnd (x2 / 2 ^ (x3).toNat) 1) = 0) →
                b16_139 d h f x1 x2 x3 (((M 3 (M 2 0 7 - 1) 4) + 1) + ((M 3 (M 2 0 7 - 1) 4) % 2)) (u5) M)))))))) ∧ (M 2 0 7 < 0 → False)))) ∧ (M 2 0 7 < 0 → False)))))))) ∧
    (¬ (x3 < 3) →
    e20 (d + 3) h  M (fun M219 => 
      f 1 M219)))) : b16_68 d h f x1 x2 x3 u4 u5 M :=
  qWq (fun pc => Nat.beq pc 2 || Nat.beq pc 68 || Nat.beq pc 139 || Nat.beq pc 158 || Nat.beq pc 189) 300 (qAn H (fun h101 h102 => And.intro (fun hc103 => (qAn3 (h101 hc103) (fun h104 h105 h106 => And.intro (fun hc107 => (h104 hc107).elim) (And.intro (fun hc107 => (qAn (h105 hc107) (fun a108 h109 => And.intro ⟨a108.1, a108.2, hS.2 _ _ _ rfl a108.1 a108.2⟩ (qAn h109 (fun h110 h111 => And.intro (fun hc112 => (qAn (h110 hc112) (fun h113 h114 => And.intro (fun hc115 => (h113 hc115)) (fun hc115 => (qAn (h114 hc115) (fun a116 h117 => And.intro a116 (qAn h117 (fun h118 h119 => And.intro (fun hc120 => (qAn3 (h118 hc120) (fun h121 h122 h123 => And.intro (fun hc124 => (h121 hc124).elim) (And.intro (fun hc124 => (And.intro (hS.1 _ _ _ rfl) (qAn (h122 hc124) (fun a125 h126 => And.intro ⟨a125.1, a125.2, hS.2 _ _ _ rfl a125.1 a125.2⟩ (qAn h126 (fun h127 h128 => And.intro (fun hc129 => (And.intro (fun _ => (h127 hc129)) (fun hc130 => absurd (by decide) hc130))) (fun hc129 => (h128 hc129)))))))) (fun hc124 => (h123 hc124).elim))))) (fun hc120 => (h119 hc120)))))))))) (fun hc112 => (qAn3 (h111 hc112) (fun h131 h132 h133 => And.intro (fun hc134 => (h131 hc134).elim) (And.intro (fun hc134 => (qAn (h132 hc134) (fun a135 h136 => And.intro a135 (qAn3 h136 (fun h137 h138 h139 => And.intro (fun hc140 => (h137 hc140).elim) (And.intro (fun hc140 => (qAn (h138 hc140) (fun a141 h142 => And.intro ⟨a141, by decide⟩ (qAn h142 (fun a143 h144 => And.intro a143 (qAn h144 (fun h145 h146 => And.intro (fun hc147 => (h145 hc147)) (fun hc147 => (qAn (h146 hc147) (fun a148 h149 => And.intro a148 (qAn h149 (fun h150 h151 => And.intro (fun hc152 => (qAn3 (h150 hc152) (fun h153 h154 h155 => And.intro (fun hc156 => (h153 hc156).elim) (And.intro (fun hc156 => (And.intro (hS.1 _ _ _ rfl) (qAn (h154 hc156) (fun a157 h158 => And.intro ⟨a157.1, a157.2, hS.2 _ _ _ rfl a157.1 a157.2⟩ (qAn h158 (fun h159 h160 => And.intro (fun hc161 => (And.intro (fun _ => (h159 hc161)) (fun hc162 => absurd (by decide) hc162))) (fun hc161 => (h160 hc161)))))))) (fun hc156 => (h155 hc156).elim))))) (fun hc152 => (h151 hc152)))))))))))))) (fun hc140 => (h139 hc140).elim))))))) (fun hc134 => (h133 hc134).elim)))))))))) (fun hc107 => (qAn (h106 hc107) (fun a163 h164 => And.intro ⟨a163.1, a163.2, hS.2 _ _ _ rfl a163.1 a163.2⟩ (qAn h164 (fun h165 h166 => And.intro (fun hc167 => (qAn (h165 hc167) (fun h168 h169 => And.intro (fun hc170 => (h168 hc170)) (fun hc170 => (qAn (h169 hc170) (fun a171 h172 => And.intro a171 (qAn h172 (fun h173 h174 => And.intro (fun hc175 => (qAn3 (h173 hc175) (fun h176 h177 h178 => And.intro (fun hc179 => (h176 hc179).elim) (And.intro (fun hc179 => (And.intro (hS.1 _ _ _ rfl) (qAn (h177 hc179) (fun a180 h181 => And.intro ⟨a180.1, a180.2, hS.2 _ _ _ rfl a180.1 a180.2⟩ (qAn h181 (fun h182 h183 => And.intro (fun hc184 => (And.intro (fun _ => (h182 hc184)) (fun hc185 => absurd (by decide) hc185))) (fun hc184 => (h183 hc184)))))))) (fun hc179 => (h178 hc179).elim))))) (fun hc175 => (h174 hc175)))))))))) (fun hc167 => (qAn3 (h166 hc167) (fun h186 h187 h188 => And.intro (fun hc189 => (h186 hc189).elim) (And.intro (fun hc189 => (qAn (h187 hc189) (fun a190 h191 => And.intro a190 (qAn3 h191 (fun h192 h193 h194 => And.intro (fun hc195 => (h192 hc195).elim) (And.intro (fun hc195 => (qAn (h193 hc195) (fun a196 h197 => And.intro ⟨a196, by decide⟩ (qAn h197 (fun a198 h199 => And.intro a198 (qAn h199 (fun h200 h201 => And.intro (fun hc202 => (h200 hc202)) (fun hc202 => (qAn (h201 hc202) (fun a203 h204 => And.intro a203 (qAn h204 (fun h205 h206 => And.intro (fun hc207 => (qAn3 (h205 hc207) (fun h208 h209 h210 => And.intro (fun hc211 => (h208 hc211).elim) (And.intro (fun hc211 => (And.intro (hS.1 _ _ _ rfl) (qAn (h209 hc211) (fun a212 h213 => And.intro ⟨a212.1, a212.2, hS.2 _ _ _ rfl a212.1 a212.2⟩ (qAn h213 (fun h214 h215 => And.intro (fun hc216 => (And.intro (fun _ => (h214 hc216)) (fun hc217 => absurd (by decide) hc217))) (fun hc216 => (h215 hc216)))))))) (fun hc211 => (h210 hc211).elim))))) (fun hc207 => (h206 hc207)))))))))))))) (fun hc195 => (h194 hc195).elim))))))) (fun hc189 => (h188 hc189).elim)))))))))))))) (fun hc103 => (And.intro rfl (qEv.go (h102 hc103) (qLq d rfl) (fun M219 h220 => (And.intro ⟨rfl, (Or.inr rfl)⟩ ⟨1, M219, rfl, rfl, h220⟩)))))))
theorem w16_139 {d : Nat} {h : qH} (hS : qSe h) {f : Int → qM → Prop} {x1 : Int} {x2 : Int} {x3 : Int} {x4 : Int} {u5 : qV} {M : qM} (H :
    e18 (d + 5) h x3 x4 M (fun M102 => 
      b16_158 d h f x1 x2 x3 x4 1 M102)) : b16_139 d h f x1 x2 x3 x4 u5 M :=
  qWq (fun pc => Nat.beq pc 2 || Nat.beq pc 68 || Nat.beq pc 139 || Nat.beq pc 158 || Nat.beq pc 189) 300 (And.intro (fun hc104 => absurd hc104 (by decide)) (fun _ => (And.intro rfl (qEv.go H (qLq d rfl) (fun M102 h103 => h103)))))
theorem w16_158 {d : Nat} {h : qH} (hS : qSe h) {f : Int → qM → Prop} {x1 : Int} {x2 : Int} {x3 : Int} {x4 : Int} {x5 : Int} {M : qM} (H :
    ((x5 = 0 →
    b16_189 d h f x1 x2 x3 x4 (.inl x5) M) ∧
    (¬ (x5 = 0) →
    ((x4 ≤ 0 →
      b16_189 d h f x1 x2 x3 x4 (.inl x5) M) ∧
      (¬ (x4 ≤ 0) →
      ((M 2 0 7 = 0 → False) ∧ (0 < M 2 0 7 → ((0 ≤ x3 ∧ x3 < 3) ∧ e69 (d + 5) h (0 + 3 * (M 2 0 7 - 1) + x3) M (fun v113 M114 => 
          ((v113 = 0 →
          f 0 M114) ∧
          (¬ (v113 = 0) →
          b16_189 d h f x1 x2 x3 x4 (.inl x5) M114))))) ∧ (M 2 0 7 < 0 → False))))))) : b16_158 d h f x1 x2 x3 x4 x5 M :=
  qWq (fun pc => Nat.beq pc 2 || Nat.beq pc 68 || Nat.beq pc 139 || Nat.beq pc 158 || Nat.beq pc 189) 300 (qAn H (fun h101 h102 => And.intro (fun hc103 => (h101 hc103)) (fun hc103 => (qAn (h102 hc103) (fun h104 h105 => And.intro (fun hc106 => (h104 hc106)) (fun hc106 => (And.intro (hS.1 _ _ _ rfl) (qAn3 (h105 hc106) (fun h107 h108 h109 => And.intro (fun hc110 => (h107 hc110).elim) (And.intro (fun hc110 => (And.intro (hS.1 _ _ _ rfl) (qAn (h108 hc110) (fun a111 h112 => And.intro ⟨a111.1, a111.2, hS.2 _ _ _ rfl a111.1 a111.2⟩ (And.intro rfl (qEi.go h112 (qLq d rfl) (fun v113 M114 h115 => (qAn h115 (fun h116 h117 => And.intro (fun hc118 => (And.intro ⟨rfl, (Or.inl rfl)⟩ ⟨0, M114, rfl, rfl, (h116 hc118)⟩)) (fun hc118 => (h117 hc118))))))))))) (fun hc110 => (h109 hc110).elim)))))))))))
theorem w16_189 {d : Nat} {h : qH} (hS : qSe h) {f : Int → qM → Prop} {x1 : Int} {x2 : Int} {x3 : Int} {x4 : Int} {u5 : qV} {M : qM} (H :
    ((M 2 0 7 = 0 → ((x4 ≤ 0 →
      ((M 2 0 7 = 0 → False) ∧ (0 < M 2 0 7 → False) ∧ (M 2 0 7 < 0 → False))) ∧
      (¬ (x4 ≤ 0) →
      ((M 2 0 7 = 0 → False) ∧ (0 < M 2 0 7 → False) ∧ (M 2 0 7 < 0 → False))))) ∧ (0 < M 2 0 7 → ((x4 ≤ 0 →
      ((M 2 0 7 = 0 → False) ∧ (0 < M 2 0 7 → (∀ M129, M129 = qU M 3 (M 2 0 7 - 1) 4 (M 3 (M 2 0 7 - 1) 4) → (qIn (x3 + 1) ∧ b16_68 d h f x1 x2 (x3 + 1) (.inl x4) (u5) M129))) ∧ (M 2 0 7 < 0 → False))) ∧
      (¬ (x4 ≤ 0) →
      ((M 2 0 7 = 0 → False) ∧ (0 < M 2 0 7 → ((0 ≤ x3 ∧ x3 < 3) ∧ (qIn (x4 + (M 8 (0 + 3 * (M 2 0 7 - 1) + x3) 1)) ∧ (qIn ((x4 + (M 8 (0 + 3 * (M 2 0 7 - 1) + x3) 1)) - 1) ∧ (∀ M142, M142 = qU M 3 (M 2 0 7 - 1) 4 ((x4 + (M 8 (0 + 3 * (M 2 0 7 - 1) + x3) 1)) - 1) → (qIn (x3 + 1) ∧ b16_68 d h f x1 x2 (x3 + 1) (.inl x4) (u5) M142)))))) ∧ (M 2 0 7 < 0 → False))))) ∧ (M 2 0 7 < 0 → ((x4 ≤ 0 →
      ((M 2 0 7 = 0 → False) ∧ (0 < M 2 0 7 → False) ∧ (M 2 0 7 < 0 → False))) ∧
      (¬ (x4 ≤ 0) →
      ((M 2 0 7 = 0 → False) ∧ (0 < M 2 0 7 → False) ∧ (M 2 0 7 < 0 → False))))))) : b16_189 d h f x1 x2 x3 x4 u5 M :=
  qWq (fun pc => Nat.beq pc 2 || Nat.beq pc 68 || Nat.beq pc 139 || Nat.beq pc 158 || Nat.beq pc 189) 300 (qAn3 H (fun h101 h102 h103 => And.intro (fun hc104 => (qAn (h101 hc104) (fun h105 h106 => And.intro (fun hc107 => (qAn3 (h105 hc107) (fun h108 h109 h110 => And.intro (fun hc111 => (h108 hc111).elim) (And.intro (fun hc111 => (h109 hc111).elim) (fun hc111 => (h110 hc111).elim))))) (fun hc107 => (qAn3 (h106 hc107) (fun h112 h113 h114 => And.intro (fun hc115 => (h112 hc115).elim) (And.intro (fun hc115 => (h113 hc115).elim) (fun hc115 => (h114 hc115).elim)))))))) (And.intro (fun hc104 => (qAn (h102 hc104) (fun h122 h123 => And.intro (fun hc124 => (qAn3 (h122 hc124) (fun h125 h126 h127 => And.intro (fun hc128 => (h125 hc128).elim) (And.intro (fun hc128 => (qAn ((h126 hc128) _ rfl) (fun a130 h131 => And.intro a130 h131))) (fun hc128 => (h127 hc128).elim))))) (fun hc124 => (qAn3 (h123 hc124) (fun h132 h133 h134 => And.intro (fun hc135 => (h132 hc135).elim) (And.intro (fun hc135 => (And.intro (hS.1 _ _ _ rfl) (qAn (h133 hc135) (fun a136 h137 => And.intro ⟨a136.1, a136.2, hS.2 _ _ _ rfl a136.1 a136.2⟩ (qAn h137 (fun a138 h139 => And.intro a138 (qAn h139 (fun a140 h141 => And.intro a140 (qAn (h141 _ rfl) (fun a143 h144 => And.intro a143 h144)))))))))) (fun hc135 => (h134 hc135).elim)))))))) (fun hc104 => (qAn (h103 hc104) (fun h145 h146 => And.intro (fun hc147 => (qAn3 (h145 hc147) (fun h148 h149 h150 => And.intro (fun hc151 => (h148 hc151).elim) (And.intro (fun hc151 => (h149 hc151).elim) (fun hc151 => (h150 hc151).elim))))) (fun hc147 => (qAn3 (h146 hc147) (fun h152 h153 h154 => And.intro (fun hc155 => (h152 hc155).elim) (And.intro (fun hc155 => (h153 hc155).elim) (fun hc155 => (h154 hc155).elim)))))))))))
theorem w16 {d : Nat} {h : qH} (hS : qSe h) {x1 : Int} {M : qM} {f : Int → qM → Prop} (H :
    b16_2 d h f x1 0 (q_u) (q_u) (q_u) M) : e16 (d + 6) h x1 M f :=
  qJ.body (Nat.le_of_ble_eq_true rfl) (qWq (fun pc => Nat.beq pc 2 || Nat.beq pc 68 || Nat.beq pc 139 || Nat.beq pc 158 || Nat.beq pc 189) 300 H)
