/-! ===== image: the class ===== -/
def imU (w : cQ) (i : Nat) : cQ := if i = 0 then imT0 w else imT1 w
section
variable {d : Nat} {n : Nat × Nat} {Ψ : Int → cQ → (Nat → Nat → Int) → Nat × Nat → Prop} {M : Nat → Nat → Int} {w : cQ} {P : Nat → Int}
theorem im_fin (i : Nat) (hi : i < 2) (hw : imW w i = true) (r : relW M P) (ok : okP P) (qq : ∀ M', (∀ c, c < imA i ∨ imA i + 12 < c → M' c = M c) → relL M' (imA i) P → relS M' (imA i + 9) (fun j => P (65 + j)) → Ψ 0 w M' n) : WPc t11_image (WPm gT (d + 1)) (FC Ψ) (56, [(2, 1), (0, (i : Int))], [], hC w M n) := by
  obtain ⟨z1, z2, z3, z4⟩ := isIm w i hi hw
  have hA : imA i = 110 ∨ imA i = 123 := by unfold imA; omega
  apply b11_image_56
  rw [Int.toNat_natCast, z1]
  refine ⟨rfl, rfl, rfl, rfl, ⟨by omega, by omega⟩, rfl, rfl, rfl, ?_, ?_⟩
  · rw [z3.1]; rfl
  · refine WPm_mono gT (d + 1) _ _ _ _ _ (fun r0 h' z0 => ?_) (c_copyL (Φ := fun _ M1 => (∀ c, c < imA i ∨ imA i + 8 < c → M1 c = M c) ∧ relL M1 (imA i) P) (imA i) 29 z3 (isLn_29 w) (by omega) r.1 ⟨ok.nc.1, ok.nc.2⟩ ok.B.2 (fun M' k1 k2 => ⟨k1, k2⟩))
    obtain ⟨M1, rfl, k1, l1⟩ := z0
    apply b11_image_72
    rw [Int.toNat_natCast, z2]
    refine ⟨rfl, rfl, rfl, rfl, ⟨by omega, by omega⟩, rfl, rfl, rfl, ?_, ?_⟩
    · rw [z4.1]; rfl
    · refine WPm_mono gT (d + 1) _ _ _ _ _ (fun r1 h' z5 => ?_) (sp_copyS (Φ := fun _ M2 => (∀ c, c < imA i + 9 ∨ imA i + 9 + 3 < c → M2 c = M1 c) ∧ relS M2 (imA i + 9) (fun j => P (65 + j))) (imA i + 9) 38 z4 (isSt_38 w) (by omega) (r.2.congr (fun c h1 h2 => k1 c (by omega))) (fun M' k2 k3 => ⟨k2, k3⟩))
      obtain ⟨M2, rfl, k2, s2⟩ := z5
      apply b11_image_88
      refine ⟨rfl, rfl, FCmk (qq M2 (fun c hc => (k2 c (by omega)).trans (k1 c (by omega))) (l1.congr (fun c h1 h2 => k2 c (by omega))) s2)⟩
theorem c_image (x : Int) (r : relW M P) (ok : okP P) (hn : n.1 + 13 ≤ 600000 ∧ n.2 + 1000 ≤ 7302249) (q : ∀ w' n' M', (¬ (0 ≤ x ∧ x ≤ 1) → w' = w → n' = n → M' = M → Ψ (-2) w' M' n') ∧ ((0 ≤ x ∧ x ≤ 1) → w' = imU w x.toNat → (n' = n ∨ (imW w x.toNat = false ∧ n' = (n.1 + 13, n.2 + 1000))) → (∀ c, c < imA x.toNat ∨ imA x.toNat + 12 < c → M' c = M c) → relL M' (imA x.toNat) P → relS M' (imA x.toNat + 9) (fun j => P (65 + j)) → Ψ 0 w' M' n')) : CW (d + 2) 175 [(2, 1), (0, x)] w M n Ψ := by
  have no : ¬ (0 ≤ x ∧ x ≤ 1) → WPc t11_image (WPm gT (d + 1)) (FC Ψ) (9, [(2, 1), (0, x)], [], hC w M n) := fun h => b11_image_9 ⟨rfl, rfl, FCmk ((q w n M).1 h rfl rfl rfl)⟩
  refine WPm_in g11_image (Nat.le_of_ble_eq_true rfl) (b11_image_0 ⟨rfl, rfl, fun c => no (by omega), fun c => ⟨rfl, rfl, rfl, fun c1 => ?_, fun c1 => no (by omega)⟩⟩)
  obtain ⟨i, hi⟩ : ∃ i : Nat, x = (i : Int) := ⟨x.toNat, by omega⟩
  subst hi
  simp only [Int.toNat_natCast] at q
  have hi2 : i < 2 := by omega
  have hx : 0 ≤ (i : Int) ∧ (i : Int) ≤ 1 := by omega
  -- one that isn't there is made
  have mk : imW w i = false → WPc t11_image (WPm gT (d + 1)) (FC Ψ) (30, [(2, 1), (0, (i : Int))], [], hC w M n) := by
    intro hf
    have hA : imA i = 110 ∨ imA i = 123 := by unfold imA; omega
    have fr : ∀ k, k ≤ 12 → shC w (imA i + k) = (0, 0) := by
      intro k hk
      obtain ⟨w0, w1, w2, w3, w4, ⟨i0, i1⟩, w6⟩ := w
      have hh : i = 0 ∨ i = 1 := by omega
      have hk' : k = 0 ∨ k = 1 ∨ k = 2 ∨ k = 3 ∨ k = 4 ∨ k = 5 ∨ k = 6 ∨ k = 7 ∨ k = 8 ∨ k = 9 ∨ k = 10 ∨ k = 11 ∨ k = 12 := by omega
      rcases hh with e | e
      · subst e
        have h : i0 = false := hf
        subst h
        rcases hk' with e | e | e | e | e | e | e | e | e | e | e | e | e <;> subst e <;> rfl
      · subst e
        have h : i1 = false := hf
        subst h
        rcases hk' with e | e | e | e | e | e | e | e | e | e | e | e | e <;> subst e <;> rfl
    have f0 : shC w (imA i) = (0, 0) := fr 0 (by omega)
    apply b11_image_30
    refine ⟨rfl, rfl, rfl, rfl, ⟨by omega, by omega⟩, imA i, fre_ok (by show (shC w (imA i)).1 = 0; rw [f0]) (by omega), rfl, ?_, ?_⟩
    · show (true && true && (false || (true && Nat.beq (if imA i = imA i then (12, 16) else shC w (imA i)).1 12))) = true
      rw [if_pos rfl]; rfl
    · refine c2_init (a := imA i) ?_ (by omega) (fun k h1 h2 => ?_) ⟨?_, ?_⟩ ?_
      · show (if imA i = imA i then (12, 16) else shC w (imA i)).1 = 12
        rw [if_pos rfl]
      · show (if imA i + k = imA i then (12, 16) else shC w (imA i + k)).1 = 0
        rw [if_neg (by omega), fr k (by omega)]
      · show n.1 + 1 + 8 ≤ 600000
        omega
      · show n.2 + 16 + 954 ≤ 7302249
        omega
      · have hh : i = 0 ∨ i = 1 := by omega
        rcases hh with e | e
        · subst e
          have g9 := fr 9 (by omega)
          have g10 := fr 10 (by omega)
          have g11 := fr 11 (by omega)
          have g12 := fr 12 (by omega)
          refine b11_image_42 ⟨rfl, ⟨by omega, ?_⟩, ?_⟩
          · show (0 : Int) < ((2 : Nat) : Int)
            omega
          · apply b11_image_43
            refine ⟨rfl, rfl, rfl, rfl, ⟨?_, ?_⟩, 119, ?_, rfl, rfl, ?_⟩
            · show n.1 + 9 + 1 ≤ 600000
              omega
            · show n.2 + 970 + 6 ≤ 7302249
              omega
            · exact fre_ok (by show (shC w 119).1 = 0; exact congrArg Prod.fst g9) (by omega)
            · refine c7_init (a := 119) rfl (by omega) (fun k h1 h2 => ?_) ⟨?_, ?_⟩ ?_
              · have hk' : k = 1 ∨ k = 2 ∨ k = 3 := by omega
                rcases hk' with e | e | e <;> subst e
                · exact congrArg Prod.fst g10
                · exact congrArg Prod.fst g11
                · exact congrArg Prod.fst g12
              · show n.1 + 10 + 3 ≤ 600000
                omega
              · show n.2 + 976 + 24 ≤ 7302249
                omega
              · refine b11_image_55 (v := 12) ⟨rfl, ⟨by omega, ?_⟩, ?_⟩
                · show (0 : Int) < ((2 : Nat) : Int)
                  omega
                · refine WPc_hq (h_im0 w M n) ?_
                  have rr : ∀ c, c < 110 ∨ 122 < c → (hIm w M n 110 0).1 c = M c := by
                    intro c hc
                    funext k
                    have z : ∀ y, 110 ≤ y → y ≤ 122 → ¬ (c = y) := fun y _ _ => by omega
                    simp only [hIm, nwS, nwL, nwA, mPut, mNew, mSet, hC, Nat.reduceAdd, z 110 (by omega) (by omega), z 111 (by omega) (by omega), z 112 (by omega) (by omega), z 113 (by omega) (by omega), z 114 (by omega) (by omega), z 115 (by omega) (by omega), z 116 (by omega) (by omega), z 117 (by omega) (by omega), z 118 (by omega) (by omega), z 119 (by omega) (by omega), z 120 (by omega) (by omega), z 121 (by omega) (by omega), z 122 (by omega) (by omega), false_and, if_false]
                  refine im_fin (P := P) 0 (by omega) rfl (r.congr (fun c h1 h2 => rr c (by omega))) ok (fun M' k1 k2 k3 => (q _ _ M').2 hx rfl (Or.inr ⟨hf, rfl⟩) (fun c hc => (k1 c hc).trans (rr c hc)) k2 k3)
        · subst e
          have g9 := fr 9 (by omega)
          have g10 := fr 10 (by omega)
          have g11 := fr 11 (by omega)
          have g12 := fr 12 (by omega)
          refine b11_image_42 ⟨rfl, ⟨by omega, ?_⟩, ?_⟩
          · show (1 : Int) < ((2 : Nat) : Int)
            omega
          · apply b11_image_43
            refine ⟨rfl, rfl, rfl, rfl, ⟨?_, ?_⟩, 132, ?_, rfl, rfl, ?_⟩
            · show n.1 + 9 + 1 ≤ 600000
              omega
            · show n.2 + 970 + 6 ≤ 7302249
              omega
            · exact fre_ok (by show (shC w 132).1 = 0; exact congrArg Prod.fst g9) (by omega)
            · refine c7_init (a := 132) rfl (by omega) (fun k h1 h2 => ?_) ⟨?_, ?_⟩ ?_
              · have hk' : k = 1 ∨ k = 2 ∨ k = 3 := by omega
                rcases hk' with e | e | e <;> subst e
                · exact congrArg Prod.fst g10
                · exact congrArg Prod.fst g11
                · exact congrArg Prod.fst g12
              · show n.1 + 10 + 3 ≤ 600000
                omega
              · show n.2 + 976 + 24 ≤ 7302249
                omega
              · refine b11_image_55 (v := 12) ⟨rfl, ⟨by omega, ?_⟩, ?_⟩
                · show (1 : Int) < ((2 : Nat) : Int)
                  omega
                · refine WPc_hq (h_im1 w M n) ?_
                  have rr : ∀ c, c < 123 ∨ 135 < c → (hIm w M n 123 1).1 c = M c := by
                    intro c hc
                    funext k
                    have z : ∀ y, 123 ≤ y → y ≤ 135 → ¬ (c = y) := fun y _ _ => by omega
                    simp only [hIm, nwS, nwL, nwA, mPut, mNew, mSet, hC, Nat.reduceAdd, z 123 (by omega) (by omega), z 124 (by omega) (by omega), z 125 (by omega) (by omega), z 126 (by omega) (by omega), z 127 (by omega) (by omega), z 128 (by omega) (by omega), z 129 (by omega) (by omega), z 130 (by omega) (by omega), z 131 (by omega) (by omega), z 132 (by omega) (by omega), z 133 (by omega) (by omega), z 134 (by omega) (by omega), z 135 (by omega) (by omega), false_and, if_false]
                  refine im_fin (P := P) 1 (by omega) rfl (r.congr (fun c h1 h2 => rr c (by omega))) ok (fun M' k1 k2 k3 => (q _ _ M').2 hx rfl (Or.inr ⟨hf, rfl⟩) (fun c hc => (k1 c hc).trans (rr c hc)) k2 k3)
  apply b11_image_12
  rw [Int.toNat_natCast]
  cases hf : imW w i with
  | false =>
    obtain ⟨z1, z2⟩ := noIm w i hi2 hf
    rw [z1, z2]
    exact ⟨rfl, rfl, rfl, rfl, ⟨by omega, by omega⟩, rfl, fun _ => mk hf, fun z => absurd rfl z⟩
  | true =>
    obtain ⟨z1, z2, z3, z4⟩ := isIm w i hi2 hf
    have hA : imA i = 110 ∨ imA i = 123 := by unfold imA; omega
    rw [z1, z2]
    refine ⟨rfl, rfl, rfl, rfl, ⟨by omega, by omega⟩, rfl, fun z => absurd z (by omega), fun _ => ⟨rfl, rfl, rfl, rfl, ⟨by omega, by omega⟩, rfl, fun _ => ?_, fun z => absurd (by omega) z⟩⟩
    have hw : w = imU w i := by
      obtain ⟨w0, w1, w2, w3, w4, ⟨i0, i1⟩, w6⟩ := w
      have hh : i = 0 ∨ i = 1 := by omega
      rcases hh with e | e
      · subst e
        have h : i0 = true := hf
        subst h; rfl
      · subst e
        have h : i1 = true := hf
        subst h; rfl
    exact im_fin (P := P) i hi2 hf r ok (fun M' k1 k2 k3 => (q w n M').2 hx hw (Or.inl rfl) k1 k2 k3)
end
