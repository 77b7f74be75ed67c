/-! ===== from cut to cut, by wip/p41/gen/genw.py: methods 59 to 80 ===== -/
theorem w59 {d : Nat} {h : qH} (hS : qSe h) {x1 : Int} {x2 : Int} {M : qM} {f : Int → qM → Prop} (H :
    ((M 7 0 3 = 0 → False) ∧ (0 < M 7 0 3 → ((0 ≤ x1 ∧ x1 < 71) ∧ (qIn ((M 55 (M 7 0 3 - 1) x1) - x2) ∧ (∀ x109 : Int, x109 = (if ((M 55 (M 7 0 3 - 1) x1) - x2) < 2 then ((M 55 (M 7 0 3 - 1) x1) - x2) else 2) → f x109 M)))) ∧ (M 7 0 3 < 0 → False))) : e59 (d + 1) h x1 x2 M f :=
  qJ.body (Nat.le_of_ble_eq_true rfl) (qWq (fun pc => Nat.beq pc 22) 300 (qAn3 H (fun h101 h102 h103 => And.intro (fun hc104 => (h101 hc104).elim) (And.intro (fun hc104 => (And.intro (hS.1 _ _ _ rfl) (qAn (h102 hc104) (fun a105 h106 => And.intro a105 (qAn h106 (fun a107 h108 => And.intro a107 (have k111 : ∀ (x109 : Int), f x109 M → qG (d + 0) (-1, fun _ => 0) (qP 59) (qRi h f) 22 [.inr (.inl (some (7, 0))), .inl x1, .inl x2, .inl ((M 55 (M 7 0 3 - 1) x1) - x2)] [.inl x109] (h, M) := fun x109 h110 => qWq (fun pc => Nat.beq pc 22) 300 ⟨x109, M, rfl, rfl, h110⟩; (And.intro (fun hc112 => (k111 ((M 55 (M 7 0 3 - 1) x1) - x2) (h108 ((M 55 (M 7 0 3 - 1) x1) - x2) (if_pos hc112).symm))) (fun hc112 => (k111 2 (h108 2 (if_neg hc112).symm))))))))))) (fun hc104 => (h103 hc104).elim)))))
theorem w60 {d : Nat} {h : qH} (hS : qSe h) {x1 : Int} {M : qM} {f : Int → qM → Prop} (H :
    ((x1 = 0 →
    f 0 M) ∧
    (¬ (x1 = 0) →
    ((x1 = 15 →
      f 0 M) ∧
      (¬ (x1 = 15) →
      (((M 7 0 9) = 0 →
        ((((M 7 0 7) < x1 → qIn (x1 - (M 7 0 7))) ∧ (¬ ((M 7 0 7) < x1) → qIn ((M 7 0 7) - x1))) ∧
          (∀ x110 : Int, x110 = (if (M 7 0 7) < x1 then (x1 - (M 7 0 7)) else ((M 7 0 7) - x1)) → f x110 M))) ∧
        (¬ ((M 7 0 9) = 0) →
        f 0 M))))))) : e60 (d + 1) h x1 M f :=
  qJ.body (Nat.le_of_ble_eq_true rfl) (qWq (fun pc => Nat.beq pc 42) 300 (qAn H (fun h101 h102 => And.intro (fun hc103 => ⟨0, M, rfl, rfl, (h101 hc103)⟩) (fun hc103 => (qAn (h102 hc103) (fun h104 h105 => And.intro (fun hc106 => ⟨0, M, rfl, rfl, (h104 hc106)⟩) (fun hc106 => (qAn (h105 hc106) (fun h107 h108 => And.intro (fun hc109 => (qAn (h107 hc109) (fun h113 h114 => (have k112 : ∀ (x110 : Int), f x110 M → qG (d + 0) (-1, fun _ => 0) (qP 60) (qRi h f) 42 [.inr (.inl (some (7, 0))), .inl x1] [.inl x110] (h, M) := fun x110 h111 => qWq (fun pc => Nat.beq pc 42) 300 ⟨x110, M, rfl, rfl, h111⟩; (And.intro (fun hc115 => (And.intro (h113.1 hc115) (k112 (x1 - (M 7 0 7)) (h114 (x1 - (M 7 0 7)) (if_pos hc115).symm)))) (fun hc115 => (And.intro (h113.2 hc115) (k112 ((M 7 0 7) - x1) (h114 ((M 7 0 7) - x1) (if_neg hc115).symm))))))))) (fun hc109 => ⟨0, M, rfl, rfl, (h108 hc109)⟩))))))))))
theorem w61 {d : Nat} {h : qH} (hS : qSe h) {x1 : Int} {M : qM} {f : Int → qM → Prop} (H :
    (∀ x101 : Int, x101 = (if x1 = 0 then (M 7 0 7) else 0) → f x101 M)) : e61 (d + 1) h x1 M f :=
  qJ.body (Nat.le_of_ble_eq_true rfl) (qWq (fun pc => Nat.beq pc 12) 300 (have k103 : ∀ (x101 : Int), f x101 M → qG (d + 0) (-1, fun _ => 0) (qP 61) (qRi h f) 12 [.inr (.inl (some (7, 0))), .inl x1] [.inl x101] (h, M) := fun x101 h102 => qWq (fun pc => Nat.beq pc 12) 300 ⟨x101, M, rfl, rfl, h102⟩; (And.intro (fun hc104 => (k103 (M 7 0 7) (H (M 7 0 7) (if_pos hc104).symm))) (fun hc104 => (k103 0 (H 0 (if_neg hc104).symm))))))
theorem w62 {d : Nat} {h : qH} (hS : qSe h) {x1 : Int} {x2 : Int} {x3 : Int} {M : qM} {f : Int → qM → Prop} (H :
    ((M 7 0 3 = 0 → False) ∧ (0 < M 7 0 3 → ((0 ≤ x1 ∧ x1 < 71) ∧ (qIn ((M 55 (M 7 0 3 - 1) x1) - x2) ∧ ((M 7 0 3 = 0 → False) ∧ (0 < M 7 0 3 → ((0 ≤ x1 ∧ x1 < 71) ∧ (qIn ((M 56 (M 7 0 3 - 1) x1) - x3) ∧ (qIn (x1 * 20) ∧ (qIn (((M 55 (M 7 0 3 - 1) x1) - x2) * 4) ∧ (qIn ((x1 * 20) + (((M 55 (M 7 0 3 - 1) x1) - x2) * 4)) ∧ (qIn (((x1 * 20) + (((M 55 (M 7 0 3 - 1) x1) - x2) * 4)) + ((M 56 (M 7 0 3 - 1) x1) - x3)) ∧ f (((x1 * 20) + (((M 55 (M 7 0 3 - 1) x1) - x2) * 4)) + ((M 56 (M 7 0 3 - 1) x1) - x3)) M))))))) ∧ (M 7 0 3 < 0 → False))))) ∧ (M 7 0 3 < 0 → False))) : e62 (d + 1) h x1 x2 x3 M f :=
  qJ.body (Nat.le_of_ble_eq_true rfl) (qWq (fun pc => false) 300 (qAn3 H (fun h101 h102 h103 => And.intro (fun hc104 => (h101 hc104).elim) (And.intro (fun hc104 => (And.intro (hS.1 _ _ _ rfl) (qAn (h102 hc104) (fun a105 h106 => And.intro a105 (qAn h106 (fun a107 h108 => And.intro a107 (qAn3 h108 (fun h109 h110 h111 => And.intro (fun hc112 => (h109 hc112).elim) (And.intro (fun hc112 => (And.intro (hS.1 _ _ _ rfl) (qAn (h110 hc112) (fun a113 h114 => And.intro a113 (qAn h114 (fun a115 h116 => And.intro a115 (qAn h116 (fun a117 h118 => And.intro a117 (qAn h118 (fun a119 h120 => And.intro a119 (qAn h120 (fun a121 h122 => And.intro a121 (qAn h122 (fun a123 h124 => And.intro a123 ⟨(((x1 * 20) + (((M 55 (M 7 0 3 - 1) x1) - x2) * 4)) + ((M 56 (M 7 0 3 - 1) x1) - x3)), M, rfl, rfl, h124⟩)))))))))))))) (fun hc112 => (h111 hc112).elim)))))))))) (fun hc104 => (h103 hc104).elim)))))
theorem w63 {d : Nat} {h : qH} (hS : qSe h) {x1 : Int} {M : qM} {f : Int → qM → Prop} (H :
    ((M 7 0 3 = 0 → False) ∧ (0 < M 7 0 3 → (0 ≤ x1 ∧ ((0 ≤ (x1 / 20) ∧ (x1 / 20) < 71) ∧ (0 ≤ x1 ∧ (0 ≤ (x1 % 20) ∧ (qIn ((M 55 (M 7 0 3 - 1) (x1 / 20)) - ((x1 % 20) / 4)) ∧ f ((M 55 (M 7 0 3 - 1) (x1 / 20)) - ((x1 % 20) / 4)) M)))))) ∧ (M 7 0 3 < 0 → False))) : e63 (d + 1) h x1 M f :=
  qJ.body (Nat.le_of_ble_eq_true rfl) (qWq (fun pc => false) 300 (qAn3 H (fun h101 h102 h103 => And.intro (fun hc104 => (h101 hc104).elim) (And.intro (fun hc104 => (And.intro (hS.1 _ _ _ rfl) (qAn (h102 hc104) (fun a105 h106 => And.intro ⟨a105, by decide⟩ (qAn h106 (fun a107 h108 => And.intro a107 (qAn h108 (fun a109 h110 => And.intro ⟨a109, by decide⟩ (qAn h110 (fun a111 h112 => And.intro ⟨a111, by decide⟩ (qAn h112 (fun a113 h114 => And.intro a113 ⟨((M 55 (M 7 0 3 - 1) (x1 / 20)) - ((x1 % 20) / 4)), M, rfl, rfl, h114⟩)))))))))))) (fun hc104 => (h103 hc104).elim)))))
theorem w64 {d : Nat} {h : qH} (hS : qSe h) {x1 : Int} {M : qM} {f : Int → qM → Prop} (H :
    ((M 7 0 3 = 0 → False) ∧ (0 < M 7 0 3 → (0 ≤ x1 ∧ ((0 ≤ (x1 / 20) ∧ (x1 / 20) < 71) ∧ (0 ≤ x1 ∧ (qIn ((M 56 (M 7 0 3 - 1) (x1 / 20)) - (x1 % 4)) ∧ f ((M 56 (M 7 0 3 - 1) (x1 / 20)) - (x1 % 4)) M))))) ∧ (M 7 0 3 < 0 → False))) : e64 (d + 1) h x1 M f :=
  qJ.body (Nat.le_of_ble_eq_true rfl) (qWq (fun pc => false) 300 (qAn3 H (fun h101 h102 h103 => And.intro (fun hc104 => (h101 hc104).elim) (And.intro (fun hc104 => (And.intro (hS.1 _ _ _ rfl) (qAn (h102 hc104) (fun a105 h106 => And.intro ⟨a105, by decide⟩ (qAn h106 (fun a107 h108 => And.intro a107 (qAn h108 (fun a109 h110 => And.intro ⟨a109, by decide⟩ (qAn h110 (fun a111 h112 => And.intro a111 ⟨((M 56 (M 7 0 3 - 1) (x1 / 20)) - (x1 % 4)), M, rfl, rfl, h112⟩)))))))))) (fun hc104 => (h103 hc104).elim)))))
theorem w65_5 {d : Nat} {h : qH} (hS : qSe h) {f : qM → Prop} {x1 : Int} {x2 : Int} {u3 : qV} {u4 : qV} {u5 : qV} {M : qM} (H :
    ((M 7 0 3 = 0 → False) ∧ (0 < M 7 0 3 → (((M 7 0 10) < (M 9 (M 7 0 3 - 1) 12) →
      ((M 7 0 3 = 0 → False) ∧ (0 < M 7 0 3 → (qIn ((M 7 0 10) + 1) ∧ ((0 ≤ ((M 7 0 10) + 1) ∧ ((M 7 0 10) + 1) < 5) ∧ ((M 7 0 3 = 0 → False) ∧ (0 < M 7 0 3 → ((0 ≤ x1 ∧ x1 < 5) ∧ (qIn ((M 61 (M 7 0 3 - 1) ((M 7 0 10) + 1)) - (M 61 (M 7 0 3 - 1) x1)) ∧ ((((M 61 (M 7 0 3 - 1) ((M 7 0 10) + 1)) - (M 61 (M 7 0 3 - 1) x1)) ≤ (M 7 0 4) →
            (qIn ((M 7 0 10) + 1) ∧ (∀ M129, M129 = qU M 7 0 10 ((M 7 0 10) + 1) → b65_5 d h f x1 x2 (u3) (u4) (u5) M129))) ∧
            (¬ (((M 61 (M 7 0 3 - 1) ((M 7 0 10) + 1)) - (M 61 (M 7 0 3 - 1) x1)) ≤ (M 7 0 4)) →
            b65_63 d h f x1 x2 (u3) (u4) (u5) M))))) ∧ (M 7 0 3 < 0 → False))))) ∧ (M 7 0 3 < 0 → False))) ∧
      (¬ ((M 7 0 10) < (M 9 (M 7 0 3 - 1) 12)) →
      b65_63 d h f x1 x2 (u3) (u4) (u5) M))) ∧ (M 7 0 3 < 0 → False))) : b65_5 d h f x1 x2 u3 u4 u5 M :=
  qWq (fun pc => Nat.beq pc 5 || Nat.beq pc 63) 300 (qAn3 H (fun h101 h102 h103 => And.intro (fun hc104 => (h101 hc104).elim) (And.intro (fun hc104 => (qAn (h102 hc104) (fun h105 h106 => And.intro (fun hc107 => (qAn3 (h105 hc107) (fun h108 h109 h110 => And.intro (fun hc111 => (h108 hc111).elim) (And.intro (fun hc111 => (And.intro (hS.1 _ _ _ rfl) (qAn (h109 hc111) (fun a112 h113 => And.intro a112 (qAn h113 (fun a114 h115 => And.intro a114 (qAn3 h115 (fun h116 h117 h118 => And.intro (fun hc119 => (h116 hc119).elim) (And.intro (fun hc119 => (And.intro (hS.1 _ _ _ rfl) (qAn (h117 hc119) (fun a120 h121 => And.intro a120 (qAn h121 (fun a122 h123 => And.intro a122 (qAn h123 (fun h124 h125 => And.intro (fun hc126 => (qAn (h124 hc126) (fun a127 h128 => And.intro a127 (h128 _ rfl)))) (fun hc126 => (h125 hc126)))))))))) (fun hc119 => (h118 hc119).elim)))))))))) (fun hc111 => (h110 hc111).elim))))) (fun hc107 => (h106 hc107))))) (fun hc104 => (h103 hc104).elim))))
theorem w65_63 {d : Nat} {h : qH} (hS : qSe h) {f : qM → Prop} {x1 : Int} {x2 : Int} {u3 : qV} {u4 : qV} {u5 : qV} {M : qM} (H :
    ((M 7 0 3 = 0 → False) ∧ (0 < M 7 0 3 → ((0 ≤ (M 7 0 10) ∧ (M 7 0 10) < 5) ∧ ((M 7 0 3 = 0 → False) ∧ (0 < M 7 0 3 → ((0 ≤ x1 ∧ x1 < 5) ∧ (qIn ((M 61 (M 7 0 3 - 1) (M 7 0 10)) - (M 61 (M 7 0 3 - 1) x1)) ∧ ((M 7 0 3 = 0 → False) ∧ (0 < M 7 0 3 → (qIn ((M 9 (M 7 0 3 - 1) 16) - x2) ∧ (qIn ((M 7 0 4) - ((M 61 (M 7 0 3 - 1) (M 7 0 10)) - (M 61 (M 7 0 3 - 1) x1))) ∧ (qIn (((M 7 0 4) - ((M 61 (M 7 0 3 - 1) (M 7 0 10)) - (M 61 (M 7 0 3 - 1) x1))) - 1) ∧ (∀ x125 : Int, x125 = (if (((M 7 0 4) - ((M 61 (M 7 0 3 - 1) (M 7 0 10)) - (M 61 (M 7 0 3 - 1) x1))) - 1) < 1 then 0 else (if ((M 9 (M 7 0 3 - 1) 16) - x2) < (((M 7 0 4) - ((M 61 (M 7 0 3 - 1) (M 7 0 10)) - (M 61 (M 7 0 3 - 1) x1))) - 1) then ((M 9 (M 7 0 3 - 1) 16) - x2) else (((M 7 0 4) - ((M 61 (M 7 0 3 - 1) (M 7 0 10)) - (M 61 (M 7 0 3 - 1) x1))) - 1))) → (∀ M127, M127 = qU M 7 0 11 x125 → ((¬ ((M127 7 0 11) ≤ 0) → qIn ((M127 7 0 11) + 1)) ∧
          (∀ x128 : Int, x128 = (if (M127 7 0 11) ≤ 0 then 0 else ((M127 7 0 11) + 1)) → (qIn (((M 61 (M 7 0 3 - 1) (M 7 0 10)) - (M 61 (M 7 0 3 - 1) x1)) + x128) ∧ (∀ M132, M132 = qU M127 7 0 12 (((M 61 (M 7 0 3 - 1) (M 7 0 10)) - (M 61 (M 7 0 3 - 1) x1)) + x128) → f M132)))))))))) ∧ (M 7 0 3 < 0 → False))))) ∧ (M 7 0 3 < 0 → False)))) ∧ (M 7 0 3 < 0 → False))) : b65_63 d h f x1 x2 u3 u4 u5 M :=
  qWq (fun pc => Nat.beq pc 5 || Nat.beq pc 63 || Nat.beq pc 132 || Nat.beq pc 154) 300 (qAn3 H (fun h101 h102 h103 => And.intro (fun hc104 => (h101 hc104).elim) (And.intro (fun hc104 => (And.intro (hS.1 _ _ _ rfl) (qAn (h102 hc104) (fun a105 h106 => And.intro a105 (qAn3 h106 (fun h107 h108 h109 => And.intro (fun hc110 => (h107 hc110).elim) (And.intro (fun hc110 => (And.intro (hS.1 _ _ _ rfl) (qAn (h108 hc110) (fun a111 h112 => And.intro a111 (qAn h112 (fun a113 h114 => And.intro a113 (qAn3 h114 (fun h115 h116 h117 => And.intro (fun hc118 => (h115 hc118).elim) (And.intro (fun hc118 => (qAn (h116 hc118) (fun a119 h120 => And.intro a119 (qAn h120 (fun a121 h122 => And.intro a121 (qAn h122 (fun a123 h124 => And.intro a123 (have k137 : ∀ (x125 : Int), (∀ M127, M127 = qU M 7 0 11 x125 → ((¬ ((M127 7 0 11) ≤ 0) → qIn ((M127 7 0 11) + 1)) ∧ (∀ x128 : Int, x128 = (if (M127 7 0 11) ≤ 0 then 0 else ((M127 7 0 11) + 1)) → (qIn (((M 61 (M 7 0 3 - 1) (M 7 0 10)) - (M 61 (M 7 0 3 - 1) x1)) + x128) ∧ (∀ M132, M132 = qU M127 7 0 12 (((M 61 (M 7 0 3 - 1) (M 7 0 10)) - (M 61 (M 7 0 3 - 1) x1)) + x128) → f M132))))) → qG (d + 0) (-1, fun _ => 0) (qP 65) (qRv h f) 132 [.inr (.inl (some (7, 0))), .inl x1, .inl x2, .inl ((M 61 (M 7 0 3 - 1) (M 7 0 10)) - (M 61 (M 7 0 3 - 1) x1)), .inl ((M 9 (M 7 0 3 - 1) 16) - x2), .inl (((M 7 0 4) - ((M 61 (M 7 0 3 - 1) (M 7 0 10)) - (M 61 (M 7 0 3 - 1) x1))) - 1)] [.inl x125, .inr (.inl (some (7, 0)))] (h, M) := fun x125 h126 => qWq (fun pc => Nat.beq pc 5 || Nat.beq pc 63 || Nat.beq pc 132 || Nat.beq pc 154) 300 (qAn (h126 _ rfl) (fun h134 h135 => (have k133 : ∀ (x128 : Int), (qIn (((M 61 (M 7 0 3 - 1) (M 7 0 10)) - (M 61 (M 7 0 3 - 1) x1)) + x128) ∧ (∀ M132, M132 = qU (qU M 7 0 11 x125) 7 0 12 (((M 61 (M 7 0 3 - 1) (M 7 0 10)) - (M 61 (M 7 0 3 - 1) x1)) + x128) → f M132)) → qG (d + 0) (-1, fun _ => 0) (qP 65) (qRv h f) 154 [.inr (.inl (some (7, 0))), .inl x1, .inl x2, .inl ((M 61 (M 7 0 3 - 1) (M 7 0 10)) - (M 61 (M 7 0 3 - 1) x1)), .inl ((M 9 (M 7 0 3 - 1) 16) - x2), .inl (((M 7 0 4) - ((M 61 (M 7 0 3 - 1) (M 7 0 10)) - (M 61 (M 7 0 3 - 1) x1))) - 1)] [.inl x128, .inl ((M 61 (M 7 0 3 - 1) (M 7 0 10)) - (M 61 (M 7 0 3 - 1) x1)), .inr (.inl (some (7, 0)))] (h, (qU M 7 0 11 x125)) := fun x128 h129 => qWq (fun pc => Nat.beq pc 5 || Nat.beq pc 63 || Nat.beq pc 132 || Nat.beq pc 154) 300 (qAn h129 (fun a130 h131 => And.intro a130 (And.intro rfl ⟨(qU (qU M 7 0 11 x125) 7 0 12 (((M 61 (M 7 0 3 - 1) (M 7 0 10)) - (M 61 (M 7 0 3 - 1) x1)) + x128)), rfl, rfl, (h131 _ rfl)⟩))); (And.intro (fun hc136 => (k133 0 (h135 0 (if_pos hc136).symm))) (fun hc136 => (And.intro (h134 hc136) (k133 (((qU M 7 0 11 x125) 7 0 11) + 1) (h135 (((qU M 7 0 11 x125) 7 0 11) + 1) (if_neg hc136).symm)))))))); (And.intro (fun hc138 => (k137 0 (h124 0 (if_pos hc138).symm))) (fun hc138 => (And.intro (fun hc139 => (k137 ((M 9 (M 7 0 3 - 1) 16) - x2) (h124 ((M 9 (M 7 0 3 - 1) 16) - x2) ((if_neg hc138).trans (if_pos hc139)).symm))) (fun hc139 => (k137 (((M 7 0 4) - ((M 61 (M 7 0 3 - 1) (M 7 0 10)) - (M 61 (M 7 0 3 - 1) x1))) - 1) (h124 (((M 7 0 4) - ((M 61 (M 7 0 3 - 1) (M 7 0 10)) - (M 61 (M 7 0 3 - 1) x1))) - 1) ((if_neg hc138).trans (if_neg hc139)).symm)))))))))))))) (fun hc118 => (h117 hc118).elim)))))))))) (fun hc110 => (h109 hc110).elim)))))))) (fun hc104 => (h103 hc104).elim))))
theorem w65 {d : Nat} {h : qH} (hS : qSe h) {x1 : Int} {x2 : Int} {M : qM} {f : qM → Prop} (H :
    (∀ M101, M101 = qU M 7 0 10 x1 → b65_5 d h f x1 x2 (q_u) (q_u) (q_u) M101)) : e65 (d + 1) h x1 x2 M f :=
  qJ.body (Nat.le_of_ble_eq_true rfl) (qWq (fun pc => Nat.beq pc 5 || Nat.beq pc 63) 300 (H _ rfl))
theorem w66_2 {d : Nat} {h : qH} (hS : qSe h) {f : Int → qM → Prop} {x1 : Int} {x2 : Int} {x3 : Int} {M : qM} (H :
    ((x3 < 16 →
    ((M 7 0 3 = 0 → False) ∧ (0 < M 7 0 3 → ((x1 < (M 9 (M 7 0 3 - 1) 12) →
        b66_30 d h f x1 x2 x3 M) ∧
        (¬ (x1 < (M 9 (M 7 0 3 - 1) 12)) →
        ((M 7 0 3 = 0 → False) ∧ (0 < M 7 0 3 → ((x2 < (M 9 (M 7 0 3 - 1) 16) →
            b66_30 d h f x1 x2 x3 M) ∧
            (¬ (x2 < (M 9 (M 7 0 3 - 1) 16)) →
            f x3 M))) ∧ (M 7 0 3 < 0 → False))))) ∧ (M 7 0 3 < 0 → False))) ∧
    (¬ (x3 < 16) →
    f x3 M))) : b66_2 d h f x1 x2 x3 M :=
  qWq (fun pc => Nat.beq pc 2 || Nat.beq pc 30) 300 (qAn H (fun h101 h102 => And.intro (fun hc103 => (qAn3 (h101 hc103) (fun h104 h105 h106 => And.intro (fun hc107 => (h104 hc107).elim) (And.intro (fun hc107 => (qAn (h105 hc107) (fun h108 h109 => And.intro (fun hc110 => (h108 hc110)) (fun hc110 => (qAn3 (h109 hc110) (fun h111 h112 h113 => And.intro (fun hc114 => (h111 hc114).elim) (And.intro (fun hc114 => (qAn (h112 hc114) (fun h115 h116 => And.intro (fun hc117 => (h115 hc117)) (fun hc117 => ⟨x3, M, rfl, rfl, (h116 hc117)⟩)))) (fun hc114 => (h113 hc114).elim)))))))) (fun hc107 => (h106 hc107).elim))))) (fun hc103 => ⟨x3, M, rfl, rfl, (h102 hc103)⟩)))
theorem w66_30 {d : Nat} {h : qH} (hS : qSe h) {f : Int → qM → Prop} {x1 : Int} {x2 : Int} {x3 : Int} {M : qM} (H :
    e65 (d + 1) h x1 x2 M (fun M102 => 
    (qIn (x2 + (M102 7 0 11)) ∧ (qIn (x3 + 1) ∧ b66_2 d h f (M102 7 0 10) (x2 + (M102 7 0 11)) (x3 + 1) M102)))) : b66_30 d h f x1 x2 x3 M :=
  qWq (fun pc => Nat.beq pc 2 || Nat.beq pc 30) 300 (And.intro rfl (qEv.go H (qLq d rfl) (fun M102 h103 => (qAn h103 (fun a104 h105 => And.intro a104 (qAn h105 (fun a106 h107 => And.intro a106 h107)))))))
theorem w66 {d : Nat} {h : qH} (hS : qSe h) {x1 : Int} {x2 : Int} {M : qM} {f : Int → qM → Prop} (H :
    b66_2 d h f x1 x2 0 M) : e66 (d + 2) h x1 x2 M f :=
  qJ.body (Nat.le_of_ble_eq_true rfl) (qWq (fun pc => Nat.beq pc 2 || Nat.beq pc 30) 300 H)
theorem w67 {d : Nat} {h : qH} (hS : qSe h) {x1 : Int} {x2 : Int} {x3 : Int} {M : qM} {f : Int → qM → Prop} (H :
    e82 (d + 1) h x1 (M 8 x1 1) M (fun v101 M102 => 
    e83 (d + 1) h x1 (M102 8 x1 1) M102 (fun v104 M105 => 
    e84 (d + 1) h x1 (M105 8 x1 1) M105 (fun v107 M108 => 
    ((x2 ≤ v101 →
    f 0 M108) ∧
    (¬ (x2 ≤ v101) →
    ((M108 7 0 3 = 0 → False) ∧ (0 < M108 7 0 3 → ((x2 ≤ (M108 9 (M108 7 0 3 - 1) 0) →
        ((x3 < 0 →
          f 0 M108) ∧
          (¬ (x3 < 0) →
          e59 (d + 1) h x2 v104 M108 (fun v123 M124 => 
            ((x3 ≤ v123 →
            e58 (d + 1) h v101 x2 v104 x3 v107 M124 (fun v129 M130 => 
              ((v129 = 0 →
              f 0 M130) ∧
              (¬ (v129 = 0) →
              e68 (d + 1) h x1 M130 (fun v135 M136 => 
                e60 (d + 1) h v135 M136 (fun v138 M139 => 
                (qIn ((M130 7 0 8) + v138) ∧ (qIn ((M130 8 x1 3) + ((M130 7 0 8) + v138)) ∧ (∀ M145, M145 = qU M139 8 x1 3 ((M130 8 x1 3) + ((M130 7 0 8) + v138)) → (qIn (v104 + x3) ∧ (qIn (v107 + (M145 7 0 5)) ∧ e81 (d + 2) h x1 x2 (v104 + x3) (v107 + (M145 7 0 5)) (M145 7 0 6) (M145 7 0 7) M145 (fun M151 => 
                f 1 M151)))))))))))) ∧
            (¬ (x3 ≤ v123) →
            f 0 M124)))))) ∧
        (¬ (x2 ≤ (M108 9 (M108 7 0 3 - 1) 0)) →
        f 0 M108))) ∧ (M108 7 0 3 < 0 → False)))))))) : e67 (d + 3) h x1 x2 x3 M f :=
  qJ.body (Nat.le_of_ble_eq_true rfl) (qWq (fun pc => false) 300 (And.intro rfl (qEi.go H (qLq d rfl) (fun v101 M102 h103 => (And.intro rfl (qEi.go h103 (qLq d rfl) (fun v104 M105 h106 => (And.intro rfl (qEi.go h106 (qLq d rfl) (fun v107 M108 h109 => (qAn h109 (fun h110 h111 => And.intro (fun hc112 => (And.intro ⟨rfl, (Or.inl rfl)⟩ ⟨0, M108, rfl, rfl, (h110 hc112)⟩)) (fun hc112 => (qAn3 (h111 hc112) (fun h113 h114 h115 => And.intro (fun hc116 => (h113 hc116).elim) (And.intro (fun hc116 => (qAn (h114 hc116) (fun h117 h118 => And.intro (fun hc119 => (qAn (h117 hc119) (fun h120 h121 => And.intro (fun hc122 => (And.intro ⟨rfl, (Or.inl rfl)⟩ ⟨0, M108, rfl, rfl, (h120 hc122)⟩)) (fun hc122 => (And.intro rfl (qEi.go (h121 hc122) (qLq d rfl) (fun v123 M124 h125 => (qAn h125 (fun h126 h127 => And.intro (fun hc128 => (And.intro rfl (qEi.go (h126 hc128) (qLq d rfl) (fun v129 M130 h131 => (qAn h131 (fun h132 h133 => And.intro (fun hc134 => (And.intro ⟨rfl, (Or.inl rfl)⟩ ⟨0, M130, rfl, rfl, (h132 hc134)⟩)) (fun hc134 => (And.intro rfl (qEi.go (h133 hc134) (qLq d rfl) (fun v135 M136 h137 => (And.intro rfl (qEi.go h137 (qLq d rfl) (fun v138 M139 h140 => (qAn h140 (fun a141 h142 => And.intro a141 (qAn h142 (fun a143 h144 => And.intro a143 (qAn (h144 _ rfl) (fun a146 h147 => And.intro a146 (qAn h147 (fun a148 h149 => And.intro a148 (And.intro rfl (qEv.go h149 (qLq d rfl) (fun M151 h152 => (And.intro ⟨rfl, (Or.inr rfl)⟩ ⟨1, M151, rfl, rfl, h152⟩))))))))))))))))))))))))) (fun hc128 => (And.intro ⟨rfl, (Or.inl rfl)⟩ ⟨0, M124, rfl, rfl, (h127 hc128)⟩))))))))))) (fun hc119 => (And.intro ⟨rfl, (Or.inl rfl)⟩ ⟨0, M108, rfl, rfl, (h118 hc119)⟩))))) (fun hc116 => (h115 hc116).elim)))))))))))))))))
theorem w68 {d : Nat} {h : qH} (hS : qSe h) {x0 : Int} {M : qM} {f : Int → qM → Prop} (H :
    (((M 8 x0 1) = 0 →
    f 15 M) ∧
    (¬ ((M 8 x0 1) = 0) →
    (0 ≤ (M 8 x0 1) ∧ ((((M 8 x0 1) % 2) = 0 → (qIn ((M 8 x0 1) - 1) ∧ (0 ≤ ((M 8 x0 1) - 1) ∧ ((M 8 x0 1) - 1) < 86))) ∧
      (∀ x106 : Int, x106 = (if ((M 8 x0 1) % 2) = 0 then (M 47 x0 ((M 8 x0 1) - 1)) else 0) → f x106 M)))))) : e68 (d + 1) h x0 M f :=
  qJ.body (Nat.le_of_ble_eq_true rfl) (qWq (fun pc => Nat.beq pc 34) 300 (qAn H (fun h101 h102 => And.intro (fun hc103 => ⟨15, M, rfl, rfl, (h101 hc103)⟩) (fun hc103 => (qAn (h102 hc103) (fun a104 h105 => And.intro ⟨a104, by decide⟩ (qAn h105 (fun h109 h110 => (have k108 : ∀ (x106 : Int), f x106 M → qG (d + 0) (-1, fun _ => 0) (qP 68) (qRi h f) 34 [.inr (.inl (some (8, x0)))] [.inl x106] (h, M) := fun x106 h107 => qWq (fun pc => Nat.beq pc 34) 300 ⟨x106, M, rfl, rfl, h107⟩; (And.intro (fun hc111 => (And.intro (hS.1 _ _ _ rfl) (And.intro (h109 hc111).1 (And.intro (h109 hc111).2 (k108 (M 47 x0 ((M 8 x0 1) - 1)) (h110 (M 47 x0 ((M 8 x0 1) - 1)) (if_pos hc111).symm)))))) (fun hc111 => (k108 0 (h110 0 (if_neg hc111).symm)))))))))))))
theorem w69_61 {d : Nat} {h : qH} (hS : qSe h) {f : Int → qM → Prop} {x1 : Int} {x2 : Int} {x3 : Int} {x4 : Int} {x5 : Int} {M : qM} (H :
    ((M 7 0 3 = 0 → False) ∧ (0 < M 7 0 3 → (qIn ((M 9 (M 7 0 3 - 1) 0) * 20) ∧ ((x5 < ((M 9 (M 7 0 3 - 1) 0) * 20) →
      ((0 ≤ x5 ∧ x5 < 1420) ∧ (((M 40 0 x5) = 0 →
        (qIn (x5 + 1) ∧ b69_61 d h f x1 x2 x3 x4 (x5 + 1) M)) ∧
        (¬ ((M 40 0 x5) = 0) →
        e70 (d + 2) h x5 M (fun M118 => 
          (qIn (x5 + 1) ∧ b69_61 d h f x1 x2 x3 x4 (x5 + 1) M118)))))) ∧
      (¬ (x5 < ((M 9 (M 7 0 3 - 1) 0) * 20)) →
      e71 (d + 3) h  M (fun M123 => 
        ((M123 7 0 3 = 0 → False) ∧ (0 < M123 7 0 3 → (qIn ((M123 9 (M123 7 0 3 - 1) 0) * 20) ∧ (qIn (((M123 9 (M123 7 0 3 - 1) 0) * 20) - 1) ∧ b69_116 d h f x1 x2 x3 x4 (((M123 9 (M123 7 0 3 - 1) 0) * 20) - 1) M123))) ∧ (M123 7 0 3 < 0 → False))))))) ∧ (M 7 0 3 < 0 → False))) : b69_61 d h f x1 x2 x3 x4 x5 M :=
  qWq (fun pc => Nat.beq pc 61 || Nat.beq pc 116) 300 (qAn3 H (fun h101 h102 h103 => And.intro (fun hc104 => (h101 hc104).elim) (And.intro (fun hc104 => (qAn (h102 hc104) (fun a105 h106 => And.intro a105 (qAn h106 (fun h107 h108 => And.intro (fun hc109 => (And.intro (hS.1 _ _ _ rfl) (qAn (h107 hc109) (fun a110 h111 => And.intro a110 (qAn h111 (fun h112 h113 => And.intro (fun hc114 => (qAn (h112 hc114) (fun a115 h116 => And.intro a115 h116))) (fun hc114 => (And.intro rfl (qEv.go (h113 hc114) (qLq d rfl) (fun M118 h119 => (qAn h119 (fun a120 h121 => And.intro a120 h121)))))))))))) (fun hc109 => (And.intro rfl (qEv.go (h108 hc109) (qLq d rfl) (fun M123 h124 => (qAn3 h124 (fun h125 h126 h127 => And.intro (fun hc128 => (h125 hc128).elim) (And.intro (fun hc128 => (qAn (h126 hc128) (fun a129 h130 => And.intro a129 (qAn h130 (fun a131 h132 => And.intro a131 h132))))) (fun hc128 => (h127 hc128).elim))))))))))))) (fun hc104 => (h103 hc104).elim))))
theorem w69_116 {d : Nat} {h : qH} (hS : qSe h) {f : Int → qM → Prop} {x1 : Int} {x2 : Int} {x3 : Int} {x4 : Int} {x5 : Int} {M : qM} (H :
    (qIn (x2 * 20) ∧ ((x5 < (x2 * 20) →
    (qIn (x3 * 16) ∧ (qIn ((x3 * 16) + x4) ∧ ((0 ≤ ((x3 * 16) + x4) ∧ ((x3 * 16) + x4) < 22720) ∧ (((M 41 0 ((x3 * 16) + x4)) < 268435456 →
      e75 (d + 4) h x1 M (fun M116 => 
        e76 (d + 3) h x1 M116 (fun M119 => 
        f 1 M119))) ∧
      (¬ ((M 41 0 ((x3 * 16) + x4)) < 268435456) →
      f 0 M)))))) ∧
    (¬ (x5 < (x2 * 20)) →
    ((0 ≤ x5 ∧ x5 < 1420) ∧ (((M 40 0 x5) = 0 →
      (qIn (x5 + (-1)) ∧ b69_116 d h f x1 x2 x3 x4 (x5 + (-1)) M)) ∧
      (¬ ((M 40 0 x5) = 0) →
      e72 (d + 3) h x5 M (fun M129 => 
        (qIn (x5 + (-1)) ∧ b69_116 d h f x1 x2 x3 x4 (x5 + (-1)) M129))))))))) : b69_116 d h f x1 x2 x3 x4 x5 M :=
  qWq (fun pc => Nat.beq pc 61 || Nat.beq pc 116) 300 (qAn H (fun a101 h102 => And.intro a101 (qAn h102 (fun h103 h104 => And.intro (fun hc105 => (And.intro (hS.1 _ _ _ rfl) (qAn (h103 hc105) (fun a106 h107 => And.intro a106 (qAn h107 (fun a108 h109 => And.intro a108 (qAn h109 (fun a110 h111 => And.intro a110 (qAn h111 (fun h112 h113 => And.intro (fun hc114 => (And.intro rfl (qEv.go (h112 hc114) (qLq d rfl) (fun M116 h117 => (And.intro rfl (qEv.go h117 (qLq d rfl) (fun M119 h120 => (And.intro ⟨rfl, (Or.inr rfl)⟩ ⟨1, M119, rfl, rfl, h120⟩)))))))) (fun hc114 => (And.intro ⟨rfl, (Or.inl rfl)⟩ ⟨0, M, rfl, rfl, (h113 hc114)⟩)))))))))))) (fun hc105 => (And.intro (hS.1 _ _ _ rfl) (qAn (h104 hc105) (fun a121 h122 => And.intro a121 (qAn h122 (fun h123 h124 => And.intro (fun hc125 => (qAn (h123 hc125) (fun a126 h127 => And.intro a126 h127))) (fun hc125 => (And.intro rfl (qEv.go (h124 hc125) (qLq d rfl) (fun M129 h130 => (qAn h130 (fun a131 h132 => And.intro a131 h132))))))))))))))))
theorem w69 {d : Nat} {h : qH} (hS : qSe h) {x1 : Int} {M : qM} {f : Int → qM → Prop} (H :
    e82 (d + 1) h x1 (M 8 x1 1) M (fun v101 M102 => 
    e83 (d + 1) h x1 (M102 8 x1 1) M102 (fun v104 M105 => 
    e84 (d + 1) h x1 (M105 8 x1 1) M105 (fun v107 M108 => 
    e62 (d + 1) h v101 v104 v107 M108 (fun v110 M111 => 
    e68 (d + 1) h x1 M111 (fun v113 M114 => 
    qEv (d + 1) 267 [.inr (.inl (some (40, 0))), .inl 0] h M114 (fun M117 => 
    ((0 ≤ (1 : Int) ∧ 0 ≤ v113 ∧ v113 < 31 ∧ ((1 : Int) * 2 ^ (v113).toNat) ≤ 2147483647) ∧ ((0 ≤ v110 ∧ v110 < 1420) ∧ ∀ M121, M121 = qU M117 40 0 v110 ((1 : Int) * 2 ^ (v113).toNat) → (qIn (v101 * 20) ∧ b69_61 d h f x1 v101 v110 v113 (v101 * 20) M121)))))))))) : e69 (d + 5) h x1 M f :=
  qJ.body (Nat.le_of_ble_eq_true rfl) (qWq (fun pc => Nat.beq pc 61 || Nat.beq pc 116) 300 (And.intro rfl (qEi.go H (qLq d rfl) (fun v101 M102 h103 => (And.intro rfl (qEi.go h103 (qLq d rfl) (fun v104 M105 h106 => (And.intro rfl (qEi.go h106 (qLq d rfl) (fun v107 M108 h109 => (And.intro rfl (qEi.go h109 (qLq d rfl) (fun v110 M111 h112 => (And.intro rfl (qEi.go h112 (qLq d rfl) (fun v113 M114 h115 => (And.intro (hS.1 _ _ _ rfl) (And.intro rfl (qEv.go h115 (qLq d rfl) (fun M117 h118 => (And.intro (hS.1 _ _ _ rfl) (qAn h118 (fun a119 h120 => And.intro a119 (qAn h120 (fun a122 h123 => And.intro a122 (qAn (h123 _ rfl) (fun a124 h125 => And.intro a124 h125)))))))))))))))))))))))))))
theorem w70_60 {d : Nat} {h : qH} (hS : qSe h) {f : qM → Prop} {u1 : qV} {x2 : Int} {x3 : Int} {x4 : Int} {x5 : Int} {x6 : Int} {x7 : Int} {u8 : qV} {u9 : qV} {M : qM} (H :
    ((M 7 0 3 = 0 → False) ∧ (0 < M 7 0 3 → ((x7 < (M 9 (M 7 0 3 - 1) 0) →
      (qIn (x2 + (M 7 0 4)) ∧ ((x7 ≤ (x2 + (M 7 0 4)) →
        e59 (d + 1) h x7 x3 M (fun v113 M114 => 
          b70_92 d h f (u1) x2 x3 x4 x5 x6 x7 v113 (u9) M114)) ∧
        (¬ (x7 ≤ (x2 + (M 7 0 4))) →
        f M)))) ∧
      (¬ (x7 < (M 9 (M 7 0 3 - 1) 0)) →
      f M))) ∧ (M 7 0 3 < 0 → False))) : b70_60 d h f u1 x2 x3 x4 x5 x6 x7 u8 u9 M :=
  qWq (fun pc => Nat.beq pc 60 || Nat.beq pc 92) 300 (qAn3 H (fun h101 h102 h103 => And.intro (fun hc104 => (h101 hc104).elim) (And.intro (fun hc104 => (qAn (h102 hc104) (fun h105 h106 => And.intro (fun hc107 => (qAn (h105 hc107) (fun a108 h109 => And.intro a108 (qAn h109 (fun h110 h111 => And.intro (fun hc112 => (And.intro rfl (qEi.go (h110 hc112) (qLq d rfl) (fun v113 M114 h115 => h115)))) (fun hc112 => (And.intro rfl ⟨M, rfl, rfl, (h111 hc112)⟩))))))) (fun hc107 => (And.intro rfl ⟨M, rfl, rfl, (h106 hc107)⟩))))) (fun hc104 => (h103 hc104).elim))))
theorem w70_92 {d : Nat} {h : qH} (hS : qSe h) {f : qM → Prop} {u1 : qV} {x2 : Int} {x3 : Int} {x4 : Int} {x5 : Int} {x6 : Int} {x7 : Int} {x8 : Int} {u9 : qV} {M : qM} (H :
    ((x8 < 0 →
    (qIn (x7 + 1) ∧ b70_60 d h f (u1) x2 x3 x4 x5 x6 (x7 + 1) (.inl x8) (u9) M)) ∧
    (¬ (x8 < 0) →
    e58 (d + 1) h x2 x7 x3 x8 x4 M (fun v106 M107 => 
      ((v106 = 0 →
      (qIn (x8 + (-1)) ∧ b70_92 d h f (u1) x2 x3 x4 x5 x6 x7 (x8 + (-1)) (u9) M107)) ∧
      (¬ (v106 = 0) →
      (qIn (x3 + x8) ∧ (qIn (x4 + (M107 7 0 5)) ∧ e62 (d + 1) h x7 (x3 + x8) (x4 + (M107 7 0 5)) M107 (fun v118 M119 => 
        ((0 ≤ v118 ∧ v118 < 1420) ∧ (∀ x123 : Int, x123 = (if x5 = 0 then 0 else 1) → ((0 ≤ v118 ∧ v118 < 1420) ∧ ∀ M125, M125 = qU M119 40 0 v118 (qOr (M119 40 0 v118) x123) → ((0 ≤ v118 ∧ v118 < 1420) ∧ ((¬ (x6 = 0) → (0 ≤ (1 : Int) ∧ 0 ≤ (M125 7 0 7) ∧ (M125 7 0 7) < 31 ∧ ((1 : Int) * 2 ^ ((M125 7 0 7)).toNat) ≤ 2147483647)) ∧
        (∀ x130 : Int, x130 = (if x6 = 0 then 0 else ((1 : Int) * 2 ^ ((M125 7 0 7)).toNat)) → ((0 ≤ v118 ∧ v118 < 1420) ∧ ∀ M132, M132 = qU M125 40 0 v118 (qOr (M125 40 0 v118) x130) → (qIn (x8 + (-1)) ∧ b70_92 d h f (u1) x2 x3 x4 x5 x6 x7 (x8 + (-1)) (.inl v118) M132))))))))))))))))) : b70_92 d h f u1 x2 x3 x4 x5 x6 x7 x8 u9 M :=
  qWq (fun pc => Nat.beq pc 60 || Nat.beq pc 92 || Nat.beq pc 149 || Nat.beq pc 174) 300 (qAn H (fun h101 h102 => And.intro (fun hc103 => (qAn (h101 hc103) (fun a104 h105 => And.intro a104 h105))) (fun hc103 => (And.intro rfl (qEi.go (h102 hc103) (qLq d rfl) (fun v106 M107 h108 => (qAn h108 (fun h109 h110 => And.intro (fun hc111 => (qAn (h109 hc111) (fun a112 h113 => And.intro a112 h113))) (fun hc111 => (qAn (h110 hc111) (fun a114 h115 => And.intro a114 (qAn h115 (fun a116 h117 => And.intro a116 (And.intro rfl (qEi.go h117 (qLq d rfl) (fun v118 M119 h120 => (And.intro (hS.1 _ _ _ rfl) (qAn h120 (fun a121 h122 => And.intro a121 (have k141 : ∀ (x123 : Int), ((0 ≤ v118 ∧ v118 < 1420) ∧ ∀ M125, M125 = qU M119 40 0 v118 (qOr (M119 40 0 v118) x123) → ((0 ≤ v118 ∧ v118 < 1420) ∧ ((¬ (x6 = 0) → (0 ≤ (1 : Int) ∧ 0 ≤ (M125 7 0 7) ∧ (M125 7 0 7) < 31 ∧ ((1 : Int) * 2 ^ ((M125 7 0 7)).toNat) ≤ 2147483647)) ∧ (∀ x130 : Int, x130 = (if x6 = 0 then 0 else ((1 : Int) * 2 ^ ((M125 7 0 7)).toNat)) → ((0 ≤ v118 ∧ v118 < 1420) ∧ ∀ M132, M132 = qU M125 40 0 v118 (qOr (M125 40 0 v118) x130) → (qIn (x8 + (-1)) ∧ b70_92 d h f (u1) x2 x3 x4 x5 x6 x7 (x8 + (-1)) (.inl v118) M132)))))) → qG (d + 1) (-1, fun _ => 0) (qP 70) (qRv h f) 149 [.inr (.inl (some (7, 0))), u1, .inl x2, .inl x3, .inl x4, .inl x5, .inl x6, .inl x7, .inl x8, .inl v118] [.inl x123, .inl (M119 40 0 v118), .inl v118, .inr (.inl (some (40, 0)))] (h, M119) := fun x123 h124 => qWq (fun pc => Nat.beq pc 60 || Nat.beq pc 92 || Nat.beq pc 149 || Nat.beq pc 174) 300 (qAn h124 (fun a126 h127 => And.intro a126 (And.intro (hS.1 _ _ _ rfl) (qAn (h127 _ rfl) (fun a128 h129 => And.intro a128 (qAn h129 (fun h138 h139 => (have k137 : ∀ (x130 : Int), ((0 ≤ v118 ∧ v118 < 1420) ∧ ∀ M132, M132 = qU (qU M119 40 0 v118 (qOr (M119 40 0 v118) x123)) 40 0 v118 (qOr ((qU M119 40 0 v118 (qOr (M119 40 0 v118) x123)) 40 0 v118) x130) → (qIn (x8 + (-1)) ∧ b70_92 d h f (u1) x2 x3 x4 x5 x6 x7 (x8 + (-1)) (.inl v118) M132)) → qG (d + 1) (-1, fun _ => 0) (qP 70) (qRv h f) 174 [.inr (.inl (some (7, 0))), u1, .inl x2, .inl x3, .inl x4, .inl x5, .inl x6, .inl x7, .inl x8, .inl v118] [.inl x130, .inl ((qU M119 40 0 v118 (qOr (M119 40 0 v118) x123)) 40 0 v118), .inl v118, .inr (.inl (some (40, 0)))] (h, (qU M119 40 0 v118 (qOr (M119 40 0 v118) x123))) := fun x130 h131 => qWq (fun pc => Nat.beq pc 60 || Nat.beq pc 92 || Nat.beq pc 149 || Nat.beq pc 174) 300 (qAn h131 (fun a133 h134 => And.intro a133 (qAn (h134 _ rfl) (fun a135 h136 => And.intro a135 h136)))); (And.intro (fun hc140 => (k137 0 (h139 0 (if_pos hc140).symm))) (fun hc140 => (And.intro (h138 hc140) (k137 ((1 : Int) * 2 ^ (((qU M119 40 0 v118 (qOr (M119 40 0 v118) x123)) 7 0 7)).toNat) (h139 ((1 : Int) * 2 ^ (((qU M119 40 0 v118 (qOr (M119 40 0 v118) x123)) 7 0 7)).toNat) (if_neg hc140).symm))))))))))))); (And.intro (fun hc142 => (k141 0 (h122 0 (if_pos hc142).symm))) (fun hc142 => (k141 1 (h122 1 (if_neg hc142).symm))))))))))))))))))))))))
theorem w70 {d : Nat} {h : qH} (hS : qSe h) {x1 : Int} {M : qM} {f : qM → Prop} (H :
    (0 ≤ x1 ∧ e63 (d + 1) h x1 M (fun v103 M104 => 
    e64 (d + 1) h x1 M104 (fun v106 M107 => 
    ((0 ≤ x1 ∧ x1 < 1420) ∧ (∀ x111 : Int, x111 = (if (qAnd (M107 40 0 x1) (-2)) = 0 then 0 else 1) → ((0 ≤ x1 ∧ x1 < 1420) ∧ (∀ x115 : Int, x115 = (if (qAnd (M107 40 0 x1) 1) = 0 then 0 else 1) → (qIn ((x1 / 20) + 1) ∧ b70_60 d h f (.inl x1) (x1 / 20) v103 v106 x111 x115 ((x1 / 20) + 1) (q_u) (q_u) M107))))))))) : e70 (d + 2) h x1 M f :=
  qJ.body (Nat.le_of_ble_eq_true rfl) (qWq (fun pc => Nat.beq pc 35 || Nat.beq pc 53 || Nat.beq pc 60 || Nat.beq pc 92) 300 (qAn H (fun a101 h102 => And.intro ⟨a101, by decide⟩ (And.intro rfl (qEi.go h102 (qLq d rfl) (fun v103 M104 h105 => (And.intro rfl (qEi.go h105 (qLq d rfl) (fun v106 M107 h108 => (And.intro (hS.1 _ _ _ rfl) (qAn h108 (fun a109 h110 => And.intro a109 (have k121 : ∀ (x111 : Int), ((0 ≤ x1 ∧ x1 < 1420) ∧ (∀ x115 : Int, x115 = (if (qAnd (M107 40 0 x1) 1) = 0 then 0 else 1) → (qIn ((x1 / 20) + 1) ∧ b70_60 d h f (.inl x1) (x1 / 20) v103 v106 x111 x115 ((x1 / 20) + 1) (q_u) (q_u) M107))) → qG (d + 1) (-1, fun _ => 0) (qP 70) (qRv h f) 35 [.inr (.inl (some (7, 0))), .inl x1, .inl (x1 / 20), .inl v103, .inl v106, q_u, q_u, q_u, q_u, q_u] [.inl x111] (h, M107) := fun x111 h112 => qWq (fun pc => Nat.beq pc 35 || Nat.beq pc 53 || Nat.beq pc 60 || Nat.beq pc 92) 300 (And.intro (hS.1 _ _ _ rfl) (qAn h112 (fun a113 h114 => And.intro a113 (have k119 : ∀ (x115 : Int), (qIn ((x1 / 20) + 1) ∧ b70_60 d h f (.inl x1) (x1 / 20) v103 v106 x111 x115 ((x1 / 20) + 1) (q_u) (q_u) M107) → qG (d + 1) (-1, fun _ => 0) (qP 70) (qRv h f) 53 [.inr (.inl (some (7, 0))), .inl x1, .inl (x1 / 20), .inl v103, .inl v106, .inl x111, q_u, q_u, q_u, q_u] [.inl x115] (h, M107) := fun x115 h116 => qWq (fun pc => Nat.beq pc 35 || Nat.beq pc 53 || Nat.beq pc 60 || Nat.beq pc 92) 300 (qAn h116 (fun a117 h118 => And.intro a117 h118)); (And.intro (fun hc120 => (k119 0 (h114 0 (if_pos hc120).symm))) (fun hc120 => (k119 1 (h114 1 (if_neg hc120).symm)))))))); (And.intro (fun hc122 => (k121 0 (h110 0 (if_pos hc122).symm))) (fun hc122 => (k121 1 (h110 1 (if_neg hc122).symm)))))))))))))))))
theorem w71_11 {d : Nat} {h : qH} (hS : qSe h) {f : qM → Prop} {x1 : Int} {u2 : qV} {u3 : qV} {M : qM} (H :
    ((x1 < 1420 →
    ((M 7 0 3 = 0 → False) ∧ (0 < M 7 0 3 → (qIn ((M 9 (M 7 0 3 - 1) 0) + 1) ∧ (qIn (((M 9 (M 7 0 3 - 1) 0) + 1) * 20) ∧ ((x1 < (((M 9 (M 7 0 3 - 1) 0) + 1) * 20) →
        e63 (d + 1) h x1 M (fun v115 M116 => 
          e64 (d + 1) h x1 M116 (fun v118 M119 => 
          ((v115 < 0 →
          (qIn (x1 + 1) ∧ b71_11 d h f (x1 + 1) (.inl v115) (.inl v118) M119)) ∧
          (¬ (v115 < 0) →
          ((v118 < 0 →
            (qIn (x1 + 1) ∧ b71_11 d h f (x1 + 1) (.inl v115) (.inl v118) M119)) ∧
            (¬ (v118 < 0) →
            (qIn (x1 * 16) ∧ (qIn (x1 + 1) ∧ (qIn ((x1 + 1) * 16) ∧ e66 (d + 2) h v115 v118 M119 (fun v137 M138 => 
              (qIn (5 * v137) ∧ qEv (d + 2) 268 [.inr (.inl (some (41, 0))), .inl (x1 * 16), .inl ((x1 + 1) * 16), .inl (5 * v137)] h M138 (fun M143 => 
              (qIn (x1 + 1) ∧ b71_11 d h f (x1 + 1) (.inl v115) (.inl v118) M143)))))))))))))) ∧
        (¬ (x1 < (((M 9 (M 7 0 3 - 1) 0) + 1) * 20)) →
        f M))))) ∧ (M 7 0 3 < 0 → False))) ∧
    (¬ (x1 < 1420) →
    f M))) : b71_11 d h f x1 u2 u3 M :=
  qWq (fun pc => Nat.beq pc 11) 300 (qAn H (fun h101 h102 => And.intro (fun hc103 => (qAn3 (h101 hc103) (fun h104 h105 h106 => And.intro (fun hc107 => (h104 hc107).elim) (And.intro (fun hc107 => (qAn (h105 hc107) (fun a108 h109 => And.intro a108 (qAn h109 (fun a110 h111 => And.intro a110 (qAn h111 (fun h112 h113 => And.intro (fun hc114 => (And.intro rfl (qEi.go (h112 hc114) (qLq d rfl) (fun v115 M116 h117 => (And.intro rfl (qEi.go h117 (qLq d rfl) (fun v118 M119 h120 => (qAn h120 (fun h121 h122 => And.intro (fun hc123 => (qAn (h121 hc123) (fun a124 h125 => And.intro a124 h125))) (fun hc123 => (qAn (h122 hc123) (fun h126 h127 => And.intro (fun hc128 => (qAn (h126 hc128) (fun a129 h130 => And.intro a129 h130))) (fun hc128 => (And.intro (hS.1 _ _ _ rfl) (qAn (h127 hc128) (fun a131 h132 => And.intro a131 (qAn h132 (fun a133 h134 => And.intro a133 (qAn h134 (fun a135 h136 => And.intro a135 (And.intro rfl (qEi.go h136 (qLq d rfl) (fun v137 M138 h139 => (qAn h139 (fun a140 h141 => And.intro a140 (And.intro rfl (qEv.go h141 (qLq d rfl) (fun M143 h144 => (qAn h144 (fun a145 h146 => And.intro a145 h146)))))))))))))))))))))))))))))) (fun hc114 => (And.intro rfl ⟨M, rfl, rfl, (h113 hc114)⟩))))))))) (fun hc107 => (h106 hc107).elim))))) (fun hc103 => (And.intro rfl ⟨M, rfl, rfl, (h102 hc103)⟩))))
theorem w71 {d : Nat} {h : qH} (hS : qSe h)  {M : qM} {f : qM → Prop} (H :
    ((M 7 0 3 = 0 → False) ∧ (0 < M 7 0 3 → (qIn ((M 9 (M 7 0 3 - 1) 0) * 20) ∧ b71_11 d h f ((M 9 (M 7 0 3 - 1) 0) * 20) (q_u) (q_u) M)) ∧ (M 7 0 3 < 0 → False))) : e71 (d + 3) h  M f :=
  qJ.body (Nat.le_of_ble_eq_true rfl) (qWq (fun pc => Nat.beq pc 11) 300 (qAn3 H (fun h101 h102 h103 => And.intro (fun hc104 => (h101 hc104).elim) (And.intro (fun hc104 => (qAn (h102 hc104) (fun a105 h106 => And.intro a105 h106))) (fun hc104 => (h103 hc104).elim)))))
theorem w72_75 {d : Nat} {h : qH} (hS : qSe h) {f : qM → Prop} {x1 : Int} {x2 : Int} {x3 : Int} {x4 : Int} {u5 : qV} {x6 : Int} {u7 : qV} {u8 : qV} {M : qM} (H :
    ((x6 ≤ x2 →
    f M) ∧
    (¬ (x6 ≤ x2) →
    e59 (d + 1) h x6 x3 M (fun v104 M105 => 
      b72_90 d h f x1 x2 x3 x4 (u5) x6 v104 (u8) M105)))) : b72_75 d h f x1 x2 x3 x4 u5 x6 u7 u8 M :=
  qWq (fun pc => Nat.beq pc 75 || Nat.beq pc 90) 300 (qAn H (fun h101 h102 => And.intro (fun hc103 => (And.intro rfl ⟨M, rfl, rfl, (h101 hc103)⟩)) (fun hc103 => (And.intro rfl (qEi.go (h102 hc103) (qLq d rfl) (fun v104 M105 h106 => h106))))))
theorem w72_90 {d : Nat} {h : qH} (hS : qSe h) {f : qM → Prop} {x1 : Int} {x2 : Int} {x3 : Int} {x4 : Int} {u5 : qV} {x6 : Int} {x7 : Int} {u8 : qV} {M : qM} (H :
    ((x7 < 0 →
    (qIn (x6 + (-1)) ∧ b72_75 d h f x1 x2 x3 x4 (u5) (x6 + (-1)) (.inl x7) (u8) M)) ∧
    (¬ (x7 < 0) →
    e58 (d + 1) h x2 x6 x3 x7 x4 M (fun v106 M107 => 
      ((v106 = 0 →
      (qIn (x7 + (-1)) ∧ b72_90 d h f x1 x2 x3 x4 (u5) x6 (x7 + (-1)) (u8) M107)) ∧
      (¬ (v106 = 0) →
      (qIn (x3 + x7) ∧ (qIn (x4 + (M107 7 0 5)) ∧ e62 (d + 1) h x6 (x3 + x7) (x4 + (M107 7 0 5)) M107 (fun v118 M119 => 
        (qIn (x6 * 4) ∧ (qIn ((x6 * 4) + x7) ∧ e73 (d + 2) h x1 v118 ((x6 * 4) + x7) M119 (fun M126 => 
        (qIn (x7 + (-1)) ∧ b72_90 d h f x1 x2 x3 x4 (u5) x6 (x7 + (-1)) (.inl v118) M126))))))))))))) : b72_90 d h f x1 x2 x3 x4 u5 x6 x7 u8 M :=
  qWq (fun pc => Nat.beq pc 75 || Nat.beq pc 90) 300 (qAn H (fun h101 h102 => And.intro (fun hc103 => (qAn (h101 hc103) (fun a104 h105 => And.intro a104 h105))) (fun hc103 => (And.intro rfl (qEi.go (h102 hc103) (qLq d rfl) (fun v106 M107 h108 => (qAn h108 (fun h109 h110 => And.intro (fun hc111 => (qAn (h109 hc111) (fun a112 h113 => And.intro a112 h113))) (fun hc111 => (qAn (h110 hc111) (fun a114 h115 => And.intro a114 (qAn h115 (fun a116 h117 => And.intro a116 (And.intro rfl (qEi.go h117 (qLq d rfl) (fun v118 M119 h120 => (qAn h120 (fun a121 h122 => And.intro a121 (qAn h122 (fun a123 h124 => And.intro a123 (And.intro rfl (qEv.go h124 (qLq d rfl) (fun M126 h127 => (qAn h127 (fun a128 h129 => And.intro a128 h129)))))))))))))))))))))))))
theorem w72 {d : Nat} {h : qH} (hS : qSe h) {x1 : Int} {M : qM} {f : qM → Prop} (H :
    (0 ≤ x1 ∧ e63 (d + 1) h x1 M (fun v103 M104 => 
    e64 (d + 1) h x1 M104 (fun v106 M107 => 
    (qIn (x1 * 16) ∧ (qIn (x1 + 1) ∧ (qIn ((x1 + 1) * 16) ∧ qEv (d + 2) 268 [.inr (.inl (some (41, 0))), .inl (x1 * 16), .inl ((x1 + 1) * 16), .inl 268435456] h M107 (fun M116 => 
    (qIn ((x1 / 20) + (M116 7 0 4)) ∧ ((M116 7 0 3 = 0 → False) ∧ (0 < M116 7 0 3 → ((((x1 / 20) + (M116 7 0 4)) < (M116 9 (M116 7 0 3 - 1) 0) →
      (qIn ((x1 / 20) + (M116 7 0 4)) ∧ b72_75 d h f x1 (x1 / 20) v103 v106 (.inl ((x1 / 20) + (M116 7 0 4))) ((x1 / 20) + (M116 7 0 4)) (q_u) (q_u) M116)) ∧
      (¬ (((x1 / 20) + (M116 7 0 4)) < (M116 9 (M116 7 0 3 - 1) 0)) →
      ((M116 7 0 3 = 0 → False) ∧ (0 < M116 7 0 3 → b72_75 d h f x1 (x1 / 20) v103 v106 (.inl (M116 9 (M116 7 0 3 - 1) 0)) (M116 9 (M116 7 0 3 - 1) 0) (q_u) (q_u) M116) ∧ (M116 7 0 3 < 0 → False))))) ∧ (M116 7 0 3 < 0 → False))))))))))) : e72 (d + 3) h x1 M f :=
  qJ.body (Nat.le_of_ble_eq_true rfl) (qWq (fun pc => Nat.beq pc 75 || Nat.beq pc 90) 300 (qAn H (fun a101 h102 => And.intro ⟨a101, by decide⟩ (And.intro rfl (qEi.go h102 (qLq d rfl) (fun v103 M104 h105 => (And.intro rfl (qEi.go h105 (qLq d rfl) (fun v106 M107 h108 => (And.intro (hS.1 _ _ _ rfl) (qAn h108 (fun a109 h110 => And.intro a109 (qAn h110 (fun a111 h112 => And.intro a111 (qAn h112 (fun a113 h114 => And.intro a113 (And.intro rfl (qEv.go h114 (qLq d rfl) (fun M116 h117 => (qAn h117 (fun a118 h119 => And.intro a118 (qAn3 h119 (fun h120 h121 h122 => And.intro (fun hc123 => (h120 hc123).elim) (And.intro (fun hc123 => (qAn (h121 hc123) (fun h124 h125 => And.intro (fun hc126 => (qAn (h124 hc126) (fun a127 h128 => And.intro a127 h128))) (fun hc126 => (qAn3 (h125 hc126) (fun h129 h130 h131 => And.intro (fun hc132 => (h129 hc132).elim) (And.intro (fun hc132 => (h130 hc132)) (fun hc132 => (h131 hc132).elim)))))))) (fun hc123 => (h122 hc123).elim)))))))))))))))))))))))))
theorem w73_45 {d : Nat} {h : qH} (hS : qSe h) {f : qM → Prop} {x1 : Int} {x2 : Int} {x3 : Int} {x4 : Int} {u5 : qV} {u6 : qV} {u7 : qV} {M : qM} (H :
    (qIn (x2 * 16) ∧ (qIn ((x2 * 16) + 0) ∧ ((0 ≤ ((x2 * 16) + 0) ∧ ((x2 * 16) + 0) < 22720) ∧ (qIn ((M 7 0 8) + (M 41 0 ((x2 * 16) + 0))) ∧ ((0 ≤ (x4 : Int) ∧ 0 ≤ (1 : Int) ∧ (1 : Int) < 31) ∧ b73_72 d h f x1 (.inl x2) x3 (.inl x4) ((M 7 0 8) + (M 41 0 ((x2 * 16) + 0))) (x4 / 2 ^ ((1 : Int)).toNat) 1 M)))))) : b73_45 d h f x1 x2 x3 x4 u5 u6 u7 M :=
  qWq (fun pc => Nat.beq pc 45 || Nat.beq pc 72) 300 (And.intro (hS.1 _ _ _ rfl) (qAn H (fun a101 h102 => And.intro a101 (qAn h102 (fun a103 h104 => And.intro a103 (qAn h104 (fun a105 h106 => And.intro a105 (qAn h106 (fun a107 h108 => And.intro a107 (qAn h108 (fun a109 h110 => And.intro a109 h110)))))))))))
theorem w73_72 {d : Nat} {h : qH} (hS : qSe h) {f : qM → Prop} {x1 : Int} {u2 : qV} {x3 : Int} {u4 : qV} {x5 : Int} {x6 : Int} {x7 : Int} {M : qM} (H :
    ((x7 < 16 →
    ((x6 = 0 →
      f M) ∧
      (¬ (x6 = 0) →
      (((qAnd x6 1) = 0 →
        ((0 ≤ (x6 : Int) ∧ 0 ≤ (1 : Int) ∧ (1 : Int) < 31) ∧ (qIn (x7 + 1) ∧ b73_72 d h f x1 (u2) x3 (u4) x5 (x6 / 2 ^ ((1 : Int)).toNat) (x7 + 1) M))) ∧
        (¬ ((qAnd x6 1) = 0) →
        (qIn (x1 * 16) ∧ (qIn ((x1 * 16) + x7) ∧ e60 (d + 1) h x7 M (fun v118 M119 => 
          (qIn (x5 + v118) ∧ e74 (d + 1) h ((x1 * 16) + x7) (x5 + v118) x3 M119 (fun M124 => 
          ((0 ≤ (x6 : Int) ∧ 0 ≤ (1 : Int) ∧ (1 : Int) < 31) ∧ (qIn (x7 + 1) ∧ b73_72 d h f x1 (u2) x3 (u4) x5 (x6 / 2 ^ ((1 : Int)).toNat) (x7 + 1) M124)))))))))))) ∧
    (¬ (x7 < 16) →
    f M))) : b73_72 d h f x1 u2 x3 u4 x5 x6 x7 M :=
  qWq (fun pc => Nat.beq pc 45 || Nat.beq pc 72) 300 (qAn H (fun h101 h102 => And.intro (fun hc103 => (qAn (h101 hc103) (fun h104 h105 => And.intro (fun hc106 => (And.intro rfl ⟨M, rfl, rfl, (h104 hc106)⟩)) (fun hc106 => (qAn (h105 hc106) (fun h107 h108 => And.intro (fun hc109 => (qAn (h107 hc109) (fun a110 h111 => And.intro a110 (qAn h111 (fun a112 h113 => And.intro a112 h113))))) (fun hc109 => (qAn (h108 hc109) (fun a114 h115 => And.intro a114 (qAn h115 (fun a116 h117 => And.intro a116 (And.intro rfl (qEi.go h117 (qLq d rfl) (fun v118 M119 h120 => (qAn h120 (fun a121 h122 => And.intro a121 (And.intro rfl (qEv.go h122 (qLq d rfl) (fun M124 h125 => (qAn h125 (fun a126 h127 => And.intro a126 (qAn h127 (fun a128 h129 => And.intro a128 h129))))))))))))))))))))))) (fun hc103 => (And.intro rfl ⟨M, rfl, rfl, (h102 hc103)⟩))))
theorem w73 {d : Nat} {h : qH} (hS : qSe h) {x1 : Int} {x2 : Int} {x3 : Int} {M : qM} {f : qM → Prop} (H :
    ((0 ≤ x1 ∧ x1 < 1420) ∧ (((qAnd (M 40 0 x1) 1) = 0 →
    b73_45 d h f x1 x2 x3 (M 40 0 x1) (q_u) (q_u) (q_u) M) ∧
    (¬ ((qAnd (M 40 0 x1) 1) = 0) →
    (qIn (x1 * 16) ∧ (qIn ((x1 * 16) + 0) ∧ (qIn (x2 * 16) ∧ (qIn ((x2 * 16) + (M 7 0 7)) ∧ ((0 ≤ ((x2 * 16) + (M 7 0 7)) ∧ ((x2 * 16) + (M 7 0 7)) < 22720) ∧ (qIn ((M 7 0 8) + (M 41 0 ((x2 * 16) + (M 7 0 7)))) ∧ e74 (d + 1) h ((x1 * 16) + 0) ((M 7 0 8) + (M 41 0 ((x2 * 16) + (M 7 0 7)))) x3 M (fun M119 => 
      b73_45 d h f x1 x2 x3 (M 40 0 x1) (q_u) (q_u) (q_u) M119))))))))))) : e73 (d + 2) h x1 x2 x3 M f :=
  qJ.body (Nat.le_of_ble_eq_true rfl) (qWq (fun pc => Nat.beq pc 45 || Nat.beq pc 72) 300 (And.intro (hS.1 _ _ _ rfl) (qAn H (fun a101 h102 => And.intro a101 (qAn h102 (fun h103 h104 => And.intro (fun hc105 => (h103 hc105)) (fun hc105 => (qAn (h104 hc105) (fun a106 h107 => And.intro a106 (qAn h107 (fun a108 h109 => And.intro a108 (And.intro (hS.1 _ _ _ rfl) (qAn h109 (fun a110 h111 => And.intro a110 (qAn h111 (fun a112 h113 => And.intro a112 (qAn h113 (fun a114 h115 => And.intro a114 (qAn h115 (fun a116 h117 => And.intro a116 (And.intro rfl (qEv.go h117 (qLq d rfl) (fun M119 h120 => h120)))))))))))))))))))))))
theorem w74 {d : Nat} {h : qH} (hS : qSe h) {x1 : Int} {x2 : Int} {x3 : Int} {M : qM} {f : qM → Prop} (H :
    ((0 ≤ x1 ∧ x1 < 22720) ∧ ((x2 < (M 41 0 x1) →
    ((0 ≤ x1 ∧ x1 < 22720) ∧ ∀ M106, M106 = qU M 41 0 x1 x2 → ((0 ≤ x1 ∧ x1 < 22720) ∧ ∀ M109, M109 = qU M106 42 0 x1 x3 → f M109))) ∧
    (¬ (x2 < (M 41 0 x1)) →
    f M)))) : e74 (d + 1) h x1 x2 x3 M f :=
  qJ.body (Nat.le_of_ble_eq_true rfl) (qWq (fun pc => false) 300 (And.intro (hS.1 _ _ _ rfl) (qAn H (fun a101 h102 => And.intro a101 (qAn h102 (fun h103 h104 => And.intro (fun hc105 => (And.intro (hS.1 _ _ _ rfl) (qAn (h103 hc105) (fun a107 h108 => And.intro a107 (And.intro (hS.1 _ _ _ rfl) (qAn (h108 _ rfl) (fun a110 h111 => And.intro a110 (And.intro rfl ⟨(qU (qU M 41 0 x1 x2) 42 0 x1 x3), rfl, rfl, (h111 _ rfl)⟩)))))))) (fun hc105 => (And.intro rfl ⟨M, rfl, rfl, (h104 hc105)⟩))))))))
theorem w75_4 {d : Nat} {h : qH} (hS : qSe h) {f : qM → Prop} {x1 : Int} {x2 : Int} {x3 : Int} {u4 : qV} {u5 : qV} {M : qM} (H :
    ((x3 < 70 →
    ((x2 = 0 →
      f M) ∧
      (¬ (x2 = 0) →
      e82 (d + 1) h x1 (M 8 x1 1) M (fun v107 M108 => 
        e83 (d + 1) h x1 (M108 8 x1 1) M108 (fun v110 M111 => 
        e84 (d + 1) h x1 (M111 8 x1 1) M111 (fun v113 M114 => 
        e62 (d + 1) h v107 v110 v113 M114 (fun v116 M117 => 
        (qIn (v116 * 16) ∧ e68 (d + 1) h x1 M117 (fun v121 M122 => 
        (qIn ((v116 * 16) + v121) ∧ ((0 ≤ ((v116 * 16) + v121) ∧ ((v116 * 16) + v121) < 22720) ∧ (0 ≤ (M122 42 0 ((v116 * 16) + v121)) ∧ (0 ≤ (M122 42 0 ((v116 * 16) + v121)) ∧ e67 (d + 3) h x1 ((M122 42 0 ((v116 * 16) + v121)) / 4) ((M122 42 0 ((v116 * 16) + v121)) % 4) M122 (fun v132 M133 => 
        ((v132 = 0 →
        (qIn (x3 + 1) ∧ b75_4 d h f x1 0 (x3 + 1) (.inl v116) (.inl (M122 42 0 ((v116 * 16) + v121))) M133)) ∧
        (¬ (v132 = 0) →
        e82 (d + 1) h x1 (M133 8 x1 1) M133 (fun v140 M141 => 
          ((M141 7 0 3 = 0 → False) ∧ (0 < M141 7 0 3 → (∀ x147 : Int, x147 = (if v140 < (M141 9 (M141 7 0 3 - 1) 0) then 1 else 0) → (qIn (x3 + 1) ∧ b75_4 d h f x1 x147 (x3 + 1) (.inl v116) (.inl (M122 42 0 ((v116 * 16) + v121))) M141))) ∧ (M141 7 0 3 < 0 → False))))))))))))))))))) ∧
    (¬ (x3 < 70) →
    f M))) : b75_4 d h f x1 x2 x3 u4 u5 M :=
  qWq (fun pc => Nat.beq pc 4 || Nat.beq pc 100) 300 (qAn H (fun h101 h102 => And.intro (fun hc103 => (qAn (h101 hc103) (fun h104 h105 => And.intro (fun hc106 => (And.intro rfl ⟨M, rfl, rfl, (h104 hc106)⟩)) (fun hc106 => (And.intro rfl (qEi.go (h105 hc106) (qLq d rfl) (fun v107 M108 h109 => (And.intro rfl (qEi.go h109 (qLq d rfl) (fun v110 M111 h112 => (And.intro rfl (qEi.go h112 (qLq d rfl) (fun v113 M114 h115 => (And.intro rfl (qEi.go h115 (qLq d rfl) (fun v116 M117 h118 => (And.intro (hS.1 _ _ _ rfl) (qAn h118 (fun a119 h120 => And.intro a119 (And.intro rfl (qEi.go h120 (qLq d rfl) (fun v121 M122 h123 => (qAn h123 (fun a124 h125 => And.intro a124 (qAn h125 (fun a126 h127 => And.intro a126 (qAn h127 (fun a128 h129 => And.intro ⟨a128, by decide⟩ (qAn h129 (fun a130 h131 => And.intro ⟨a130, by decide⟩ (And.intro rfl (qEi.go h131 (qLq d rfl) (fun v132 M133 h134 => (qAn h134 (fun h135 h136 => And.intro (fun hc137 => (qWq (fun pc => Nat.beq pc 4 || Nat.beq pc 100) 300 (qAn (h135 hc137) (fun a138 h139 => And.intro a138 h139)))) (fun hc137 => (And.intro rfl (qEi.go (h136 hc137) (qLq d rfl) (fun v140 M141 h142 => (qAn3 h142 (fun h143 h144 h145 => And.intro (fun hc146 => (h143 hc146).elim) (And.intro (fun hc146 => (have k151 : ∀ (x147 : Int), (qIn (x3 + 1) ∧ b75_4 d h f x1 x147 (x3 + 1) (.inl v116) (.inl (M122 42 0 ((v116 * 16) + v121))) M141) → qG (d + 3) (-1, fun _ => 0) (qP 75) (qRv h f) 100 [.inr (.inl (some (7, 0))), .inr (.inl (some (8, x1))), .inl x2, .inl x3, .inl v116, .inl (M122 42 0 ((v116 * 16) + v121))] [.inl x147] (h, M141) := fun x147 h148 => qWq (fun pc => Nat.beq pc 4 || Nat.beq pc 100) 300 (qAn h148 (fun a149 h150 => And.intro a149 h150)); (And.intro (fun hc152 => (k151 1 ((h144 hc146) 1 (if_pos hc152).symm))) (fun hc152 => (k151 0 ((h144 hc146) 0 (if_neg hc152).symm)))))) (fun hc146 => (h145 hc146).elim))))))))))))))))))))))))))))))))))))))))))) (fun hc103 => (And.intro rfl ⟨M, rfl, rfl, (h102 hc103)⟩))))
theorem w75 {d : Nat} {h : qH} (hS : qSe h) {x1 : Int} {M : qM} {f : qM → Prop} (H :
    b75_4 d h f x1 1 0 (q_u) (q_u) M) : e75 (d + 4) h x1 M f :=
  qJ.body (Nat.le_of_ble_eq_true rfl) (qWq (fun pc => Nat.beq pc 4) 300 H)
theorem w76_26 {d : Nat} {h : qH} (hS : qSe h) {f : qM → Prop} {x1 : Int} {x2 : Int} {x3 : Int} {x4 : Int} {M : qM} (H :
    ((x4 ≤ 0 →
    f M) ∧
    (¬ (x4 ≤ 0) →
    e65 (d + 1) h x2 x3 M (fun M105 => 
      (qIn (x3 + (M105 7 0 11)) ∧ ((M105 7 0 3 = 0 → False) ∧ (0 < M105 7 0 3 → e81 (d + 2) h x1 (M105 9 (M105 7 0 3 - 1) 0) (M105 7 0 10) (x3 + (M105 7 0 11)) 0 (M105 7 0 12) M105 (fun M114 => 
        (qIn ((M114 8 x1 3) + 5) ∧ (∀ M118, M118 = qU M114 8 x1 3 ((M114 8 x1 3) + 5) → (qIn (x4 + (-1)) ∧ b76_26 d h f x1 (M105 7 0 10) (x3 + (M105 7 0 11)) (x4 + (-1)) M118))))) ∧ (M105 7 0 3 < 0 → False))))))) : b76_26 d h f x1 x2 x3 x4 M :=
  qWq (fun pc => Nat.beq pc 26) 300 (qAn H (fun h101 h102 => And.intro (fun hc103 => (And.intro rfl ⟨M, rfl, rfl, (h101 hc103)⟩)) (fun hc103 => (And.intro rfl (qEv.go (h102 hc103) (qLq d rfl) (fun M105 h106 => (qAn h106 (fun a107 h108 => And.intro a107 (qAn3 h108 (fun h109 h110 h111 => And.intro (fun hc112 => (h109 hc112).elim) (And.intro (fun hc112 => (And.intro rfl (qEv.go (h110 hc112) (qLq d rfl) (fun M114 h115 => (qAn h115 (fun a116 h117 => And.intro a116 (qAn (h117 _ rfl) (fun a119 h120 => And.intro a119 h120)))))))) (fun hc112 => (h111 hc112).elim))))))))))))
theorem w76 {d : Nat} {h : qH} (hS : qSe h) {x1 : Int} {M : qM} {f : qM → Prop} (H :
    e83 (d + 1) h x1 (M 8 x1 1) M (fun v101 M102 => 
    e84 (d + 1) h x1 (M102 8 x1 1) M102 (fun v104 M105 => 
    e66 (d + 2) h v101 v104 M105 (fun v107 M108 => 
    b76_26 d h f x1 v101 v104 v107 M108)))) : e76 (d + 3) h x1 M f :=
  qJ.body (Nat.le_of_ble_eq_true rfl) (qWq (fun pc => Nat.beq pc 26) 300 (And.intro rfl (qEi.go H (qLq d rfl) (fun v101 M102 h103 => (And.intro rfl (qEi.go h103 (qLq d rfl) (fun v104 M105 h106 => (And.intro rfl (qEi.go h106 (qLq d rfl) (fun v107 M108 h109 => h109))))))))))
theorem w77 {d : Nat} {h : qH} (hS : qSe h) {x1 : Int} {x2 : Int} {M : qM} {f : Int → qM → Prop} (H :
    e57 (d + 1) h x1 x2 M (fun M102 => 
    (((M102 9 x1 0) = 0 →
    f 0 M102) ∧
    (¬ ((M102 9 x1 0) = 0) →
    e78 (d + 3) h 0 0 0 15 M102 (fun v107 M108 => 
      f v107 M108))))) : e77 (d + 4) h x1 x2 M f :=
  qJ.body (Nat.le_of_ble_eq_true rfl) (qWq (fun pc => false) 300 (And.intro rfl (qEv.go H (qLq d rfl) (fun M102 h103 => (qAn h103 (fun h104 h105 => And.intro (fun hc106 => ⟨0, M102, rfl, rfl, (h104 hc106)⟩) (fun hc106 => (And.intro rfl (qEi.go (h105 hc106) (qLq d rfl) (fun v107 M108 h109 => ⟨v107, M108, rfl, rfl, h109⟩))))))))))
theorem w78_38 {d : Nat} {h : qH} (hS : qSe h) {f : Int → qM → Prop} {x1 : Int} {x2 : Int} {x3 : Int} {x4 : Int} {x5 : Int} {x6 : Int} {u7 : qV} {u8 : qV} {M : qM} (H :
    ((M 7 0 3 = 0 → False) ∧ (0 < M 7 0 3 → ((x6 ≤ (M 9 (M 7 0 3 - 1) 0) →
      e59 (d + 1) h x6 x2 M (fun v108 M109 => 
        b78_59 d h f x1 x2 x3 x4 x5 x6 v108 (u8) M109)) ∧
      (¬ (x6 ≤ (M 9 (M 7 0 3 - 1) 0)) →
      f x5 M))) ∧ (M 7 0 3 < 0 → False))) : b78_38 d h f x1 x2 x3 x4 x5 x6 u7 u8 M :=
  qWq (fun pc => Nat.beq pc 38 || Nat.beq pc 59) 300 (qAn3 H (fun h101 h102 h103 => And.intro (fun hc104 => (h101 hc104).elim) (And.intro (fun hc104 => (qAn (h102 hc104) (fun h105 h106 => And.intro (fun hc107 => (And.intro rfl (qEi.go (h105 hc107) (qLq d rfl) (fun v108 M109 h110 => h110)))) (fun hc107 => ⟨x5, M, rfl, rfl, (h106 hc107)⟩)))) (fun hc104 => (h103 hc104).elim))))
theorem w78_59 {d : Nat} {h : qH} (hS : qSe h) {f : Int → qM → Prop} {x1 : Int} {x2 : Int} {x3 : Int} {x4 : Int} {x5 : Int} {x6 : Int} {x7 : Int} {u8 : qV} {M : qM} (H :
    ((x7 < 0 →
    (qIn (x6 + 1) ∧ b78_38 d h f x1 x2 x3 x4 x5 (x6 + 1) (.inl x7) (u8) M)) ∧
    (¬ (x7 < 0) →
    e58 (d + 1) h x1 x6 x2 x7 x3 M (fun v106 M107 => 
      ((v106 = 0 →
      (qIn (x7 + (-1)) ∧ b78_59 d h f x1 x2 x3 x4 x5 x6 (x7 + (-1)) (u8) M107)) ∧
      (¬ (v106 = 0) →
      e60 (d + 1) h x4 M107 (fun v114 M115 => 
        (qIn ((M107 7 0 8) + v114) ∧ (qIn (x2 + x7) ∧ (qIn (x3 + (M115 7 0 5)) ∧ e61 (d + 1) h x4 M115 (fun v123 M124 => 
        e78 (d + 2) h x6 (x2 + x7) (x3 + (M115 7 0 5)) v123 M124 (fun v126 M127 => 
        (qIn (((M107 7 0 8) + v114) + v126) ∧ (∀ x131 : Int, x131 = (if (((M107 7 0 8) + v114) + v126) < x5 then (((M107 7 0 8) + v114) + v126) else x5) → (qIn (x7 + (-1)) ∧ b78_59 d h f x1 x2 x3 x4 x131 x6 (x7 + (-1)) (.inl (((M107 7 0 8) + v114) + v126)) M127))))))))))))))) : b78_59 d h f x1 x2 x3 x4 x5 x6 x7 u8 M :=
  qWq (fun pc => Nat.beq pc 38 || Nat.beq pc 59 || Nat.beq pc 132) 300 (qAn H (fun h101 h102 => And.intro (fun hc103 => (qAn (h101 hc103) (fun a104 h105 => And.intro a104 h105))) (fun hc103 => (And.intro rfl (qEi.go (h102 hc103) (qLq d rfl) (fun v106 M107 h108 => (qAn h108 (fun h109 h110 => And.intro (fun hc111 => (qAn (h109 hc111) (fun a112 h113 => And.intro a112 h113))) (fun hc111 => (And.intro rfl (qEi.go (h110 hc111) (qLq d rfl) (fun v114 M115 h116 => (qAn h116 (fun a117 h118 => And.intro a117 (qAn h118 (fun a119 h120 => And.intro a119 (qAn h120 (fun a121 h122 => And.intro a121 (And.intro rfl (qEi.go h122 (qLq d rfl) (fun v123 M124 h125 => (And.intro rfl (qEi.go h125 (qLq d rfl) (fun v126 M127 h128 => (qAn h128 (fun a129 h130 => And.intro a129 (have k135 : ∀ (x131 : Int), (qIn (x7 + (-1)) ∧ b78_59 d h f x1 x2 x3 x4 x131 x6 (x7 + (-1)) (.inl (((M107 7 0 8) + v114) + v126)) M127) → qG (d + 2) (-1, fun _ => 0) (qP 78) (qRi h f) 132 [.inr (.inl (some (7, 0))), .inl x1, .inl x2, .inl x3, .inl x4, .inl x5, .inl x6, .inl x7, .inl (((M107 7 0 8) + v114) + v126)] [.inl x131] (h, M127) := fun x131 h132 => qWq (fun pc => Nat.beq pc 38 || Nat.beq pc 59 || Nat.beq pc 132) 300 (qAn h132 (fun a133 h134 => And.intro a133 h134)); (And.intro (fun hc136 => (k135 (((M107 7 0 8) + v114) + v126) (h130 (((M107 7 0 8) + v114) + v126) (if_pos hc136).symm))) (fun hc136 => (k135 x5 (h130 x5 (if_neg hc136).symm)))))))))))))))))))))))))))))))
theorem w78 {d : Nat} {h : qH} (hS : qSe h) {x1 : Int} {x2 : Int} {x3 : Int} {x4 : Int} {M : qM} {f : Int → qM → Prop} (H :
    ((M 7 0 3 = 0 → False) ∧ (0 < M 7 0 3 → ((x1 < (M 9 (M 7 0 3 - 1) 0) →
      ((x1 < 8 →
        (qIn (x1 + 1) ∧ b78_38 d h f x1 x2 x3 x4 268435456 (x1 + 1) (q_u) (q_u) M)) ∧
        (¬ (x1 < 8) →
        f 268435456 M))) ∧
      (¬ (x1 < (M 9 (M 7 0 3 - 1) 0)) →
      e66 (d + 2) h x2 x3 M (fun v113 M114 => 
        (qIn (5 * v113) ∧ f (5 * v113) M114))))) ∧ (M 7 0 3 < 0 → False))) : e78 (d + 3) h x1 x2 x3 x4 M f :=
  qJ.body (Nat.le_of_ble_eq_true rfl) (qWq (fun pc => Nat.beq pc 38 || Nat.beq pc 59) 300 (qAn3 H (fun h101 h102 h103 => And.intro (fun hc104 => (h101 hc104).elim) (And.intro (fun hc104 => (qAn (h102 hc104) (fun h105 h106 => And.intro (fun hc107 => (qAn (h105 hc107) (fun h108 h109 => And.intro (fun hc110 => (qAn (h108 hc110) (fun a111 h112 => And.intro a111 h112))) (fun hc110 => ⟨268435456, M, rfl, rfl, (h109 hc110)⟩)))) (fun hc107 => (And.intro rfl (qEi.go (h106 hc107) (qLq d rfl) (fun v113 M114 h115 => (qAn h115 (fun a116 h117 => And.intro a116 ⟨(5 * v113), M114, rfl, rfl, h117⟩))))))))) (fun hc104 => (h103 hc104).elim)))))
theorem w80 {d : Nat} {h : qH} (hS : qSe h) {x0 : Int} {x1 : Int} {M : qM} {f : qM → Prop} (H :
    (∀ M101, M101 = qU M 8 x0 0 x1 → (∀ M102, M102 = qU M101 8 x0 1 0 → (∀ M103, M103 = qU M102 8 x0 2 0 → (∀ M104, M104 = qU M103 8 x0 3 0 → f M104))))) : e80 (d + 1) h x0 x1 M f :=
  qJ.body (Nat.le_of_ble_eq_true rfl) (qWq (fun pc => false) 300 (And.intro rfl ⟨(qU (qU (qU (qU M 8 x0 0 x1) 8 x0 1 0) 8 x0 2 0) 8 x0 3 0), rfl, rfl, ((((H _ rfl) _ rfl) _ rfl) _ rfl)⟩))
