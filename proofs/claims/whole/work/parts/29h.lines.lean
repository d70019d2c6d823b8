/-! ===== lines of a text: pure; rows stay good ===== -/
def numC (T : Nat → Int) (N : Nat) (lo hi : Int) (p : Nat) (K : Nat → Int → pR) : pR := if tkK T N p = 23 ∧ lo ≤ tkV T N p ∧ tkV T N p ≤ hi then K (tkE T N p) (tkV T N p) else flt T N (if tkK T N p = 23 then 3 else 2) p
def expC (T : Nat → Int) (N k p : Nat) (K : Nat → pR) : pR := if tkK T N p = k then K (tkE T N p) else flt T N 2 p
def putB (P : Nat → Int) (a b m : Int) : Nat → Int := pset (pset (pset (pset P (13 + (P 3).toNat) a) (25 + (P 3).toNat) b) (37 + (P 3).toNat) m) 3 (P 3 + 1)
def nowR (P : Nat → Int) (m : Int) : Nat → Int := fun j => if 68 ≤ j ∧ j < 76 then m else P j
def bitP (T : Nat → Int) (N p : Nat) (P : Nat → Int) : pR := if P 3 = 12 then flt T N 4 p else numC T N 0 (P 2 - 1) (tkE T N p) (fun p1 a => expC T N 3 p1 (fun p2 => numC T N 0 (P 2 - 1) p2 (fun p3 b => if tkK T N p3 = 4 then .inl (tkE T N p3, putB P a b 1) else .inl (p3, putB P a b 0))))
noncomputable def cutT (T : Nat → Int) (N p : Nat) (P : Nat → Int) : pR := numC T N 0 (P 1 - 2) (tkE T N p) (fun p1 k => .inl (p1, pset P 67 (m_or (P 67) (m_shl 1 k))))
def nowT (T : Nat → Int) (N p : Nat) (P : Nat → Int) : pR := numC T N 0 (P 2 - 1) (tkE T N p) (fun p1 m => .inl (p1, nowR P m))
def snowT (T : Nat → Int) (N p : Nat) (P : Nat → Int) : pR := numC T N 0 10 (tkE T N p) (fun p1 s => expC T N 10 p1 (fun p2 => numC T N 0 (P 1 - 2) p2 (fun p3 k => .inl (p3, pset P (57 + k.toNat) s))))
/-- wishes and moods of a farm, in at most so many steps -/
def flgT (T : Nat → Int) (N f : Nat) : Nat → Nat → (Nat → Int) → pR → Prop
  | 0, _, _, _ => False
  | u + 1, p, P, r => if tkK T N p = 6 then (if tkK T N (tkE T N p) = 23 ∧ 0 ≤ tkV T N (tkE T N p) ∧ tkV T N (tkE T N p) ≤ P 2 - 1 then flgT T N f u (tkE T N (tkE T N p)) (pset P (49 + f) (tkV T N (tkE T N p))) r else r = flt T N (if tkK T N (tkE T N p) = 23 then 3 else 2) (tkE T N p))
    else if tkK T N p = 7 then (if tkK T N (tkE T N p) = 23 ∧ 0 ≤ tkV T N (tkE T N p) ∧ tkV T N (tkE T N p) ≤ 9 then flgT T N f u (tkE T N (tkE T N p)) (pset P (84 + f) (tkV T N (tkE T N p))) r else r = flt T N (if tkK T N (tkE T N p) = 23 then 3 else 2) (tkE T N p))
    else r = .inl (p, P)
def flgS (T : Nat → Int) (N f p : Nat) (P : Nat → Int) (r : pR) : Prop := ∃ u, flgT T N f u p P r
theorem flgT_s (T : Nat → Int) (N f u p : Nat) (P : Nat → Int) (r : pR) : flgT T N f (u + 1) p P r = (if tkK T N p = 6 then (if tkK T N (tkE T N p) = 23 ∧ 0 ≤ tkV T N (tkE T N p) ∧ tkV T N (tkE T N p) ≤ P 2 - 1 then flgT T N f u (tkE T N (tkE T N p)) (pset P (49 + f) (tkV T N (tkE T N p))) r else r = flt T N (if tkK T N (tkE T N p) = 23 then 3 else 2) (tkE T N p))
    else if tkK T N p = 7 then (if tkK T N (tkE T N p) = 23 ∧ 0 ≤ tkV T N (tkE T N p) ∧ tkV T N (tkE T N p) ≤ 9 then flgT T N f u (tkE T N (tkE T N p)) (pset P (84 + f) (tkV T N (tkE T N p))) r else r = flt T N (if tkK T N (tkE T N p) = 23 then 3 else 2) (tkE T N p))
    else r = .inl (p, P)) := rfl
def farmT (T : Nat → Int) (N p : Nat) (P : Nat → Int) (r : pR) : Prop := if tkK T N (tkE T N p) = 23 ∧ 0 ≤ tkV T N (tkE T N p) ∧ tkV T N (tkE T N p) ≤ P 1 - 1 then flgS T N (tkV T N (tkE T N p)).toNat (tkE T N (tkE T N p)) P r else r = flt T N (if tkK T N (tkE T N p) = 23 then 3 else 2) (tkE T N p)
/-- a law's place is put -/
def putL (l : Nat) (P P' : Nat → Int) : Nat → Int := pset (pset (pset P' (4 + l) 1) (7 + l) (P 363)) (10 + l) (P' 363 - P 363)
def lawT (T : Nat → Int) (N l p : Nat) (P : Nat → Int) (r : pR) : Prop := if tkK T N (tkE T N p) = 31 then (∃ r0, RnS l T N (tkE T N (tkE T N p)) [] (if l = 2 then 1 else 0) 0 P r0 ∧ r = (match r0 with | .inl (p', P') => .inl (p', putL l P P') | .inr e => .inr e)) else r = flt T N 2 (tkE T N p)
/-- a line without its end -/
def Ln (T : Nat → Int) (N p : Nat) (P : Nat → Int) (r : pR) : Prop := if tkK T N p = 2 then r = bitP T N p P else if tkK T N p = 5 then farmT T N p P r else if tkK T N p = 8 then r = cutT T N p P else if tkK T N p = 9 then r = snowT T N p P else if 11 ≤ tkK T N p ∧ tkK T N p ≤ 13 then lawT T N (tkK T N p - 11) p P r else if tkK T N p = 14 then r = nowT T N p P else r = flt T N 2 p
/-- the end of a line -/
noncomputable def smc (T : Nat → Int) (N p : Nat) (P : Nat → Int) : pR := if tkK T N p = 30 then .inl (tkE T N p, pset P 0 (w32 (P 0 + 1))) else flt T N 2 p
def LnE (T : Nat → Int) (N p : Nat) (P : Nat → Int) (r : pR) : Prop := ∃ r0, Ln T N p P r0 ∧ r = (match r0 with | .inl (p', P') => smc T N p' P' | .inr e => .inr e)
/-- what stays true of a row while a text is read -/
def okD (p : Nat) (P : Nat → Int) : Prop := okP P ∧ P 363 ≤ (p : Int)
/-- the lines of a text, in at most so many steps -/
def Ls (T : Nat → Int) (N : Nat) : Nat → Nat → (Nat → Int) → pR → Prop
  | 0, _, _, _ => False
  | u + 1, p, P, r => if tkK T N p = 24 then r = .inl (p, P) else ∃ r1, LnE T N p P r1 ∧ (match r1 with | .inl (p', P') => okD p' P' ∧ p < p' ∧ p' ≤ N ∧ Ls T N u p' P' r | .inr e => r = .inr e)
theorem Ls_s (T : Nat → Int) (N u p : Nat) (P : Nat → Int) (r : pR) : Ls T N (u + 1) p P r = (if tkK T N p = 24 then r = .inl (p, P) else ∃ r1, LnE T N p P r1 ∧ (match r1 with | .inl (p', P') => okD p' P' ∧ p < p' ∧ p' ≤ N ∧ Ls T N u p' P' r | .inr e => r = .inr e)) := rfl
/-- the first line -/
noncomputable def hdT (T : Nat → Int) (N : Nat) (P : Nat → Int) : pR := expC T N 0 0 (fun p1 => numC T N 2 8 p1 (fun p2 f => expC T N 1 p2 (fun p3 => numC T N 2 8 p3 (fun p4 m => smc T N p4 (pset (pset P 1 f) 2 m)))))
/-- a text -/
def Txt (T : Nat → Int) (N : Nat) (P : Nat → Int) (r : pR) : Prop := match hdT T N P with | .inl (p', P') => okD p' P' ∧ 0 < p' ∧ p' ≤ N ∧ (∃ u, Ls T N u p' P' r) | .inr e => r = .inr e
theorem okL_ext {P P' : Nat → Int} {l : Nat} (hl : l < 3) (h : ∀ j, (4 ≤ j ∧ j < 13) ∨ 363 ≤ j → P' j = P j) (ok : okL P l) : okL P' l := by
  have e : cdP P' l = cdP P l := by
    funext k
    unfold cdP
    rw [h (7 + l) (by omega), h _ (by omega)]
  unfold okL mnP at ok ⊢
  rw [e, h (4 + l) (by omega), h (7 + l) (by omega), h (10 + l) (by omega), h 363 (by omega)]
  exact ok
theorem okP.of3 {P P' : Nat → Int} (ok : okP P) (h : ∀ j, (1 ≤ j ∧ j < 13) ∨ 65 ≤ j → j ≠ 3 → P' j = P j) (hB : 0 ≤ P' 3 ∧ P' 3 ≤ 12) (hb : ∀ b : Nat, (b : Int) < P' 3 → (0 ≤ P' (13 + b) ∧ P' (13 + b) < P 2) ∧ (0 ≤ P' (25 + b) ∧ P' (25 + b) < P 2) ∧ (P' (37 + b) = 0 ∨ P' (37 + b) = 1)) (hf : ∀ f : Nat, f < 8 → (0 ≤ P' (49 + f) ∧ P' (49 + f) < P 2) ∧ (0 ≤ P' (57 + f) ∧ P' (57 + f) ≤ 10)) : okP P' := by
  have e1 := h 1 (by omega) (by omega)
  have e2 := h 2 (by omega) (by omega)
  refine ⟨by rw [e1]; exact ok.F, by rw [e2]; exact ok.Mo, hB, by rw [e2]; exact hb, by rw [e2]; exact hf, ⟨?_, ?_, fun l hl => okL_ext hl (fun j hj => h j (by omega) (by omega)) (ok.law hl)⟩, ?_⟩
  · rw [h 363 (by omega) (by omega)]; exact ok.nc.1
  · rw [h 363 (by omega) (by omega)]; exact ok.nc.2
  · have hs := ok.st
    unfold okS at hs ⊢
    rw [e1, e2]
    refine ⟨?_, ?_, fun f hf => ?_⟩
    · have := hs.1
      dsimp only at this ⊢
      rw [h _ (by omega) (by omega)]; exact this
    · have := hs.2.1
      dsimp only at this ⊢
      rw [h _ (by omega) (by omega)]; exact this
    · have := hs.2.2 f hf
      dsimp only at this ⊢
      rw [h (65 + (3 + f)) (by omega) (by omega), h (65 + (19 + f)) (by omega) (by omega)]; exact this
theorem okP.put1 {P : Nat → Int} (ok : okP P) {a b m : Int} (h12 : P 3 ≠ 12) (ha : 0 ≤ a ∧ a ≤ P 2 - 1) (hb : 0 ≤ b ∧ b ≤ P 2 - 1) (hm : m = 0 ∨ m = 1) : okP (putB P a b m) := by
  obtain ⟨B, hB⟩ : ∃ B : Nat, P 3 = (B : Int) := ⟨(P 3).toNat, by have := ok.B; omega⟩
  have h3 := ok.B
  unfold putB
  rw [hB, Int.toNat_natCast]
  have q3 : pset (pset (pset (pset P (13 + B) a) (25 + B) b) (37 + B) m) 3 ((B : Int) + 1) 3 = (B : Int) + 1 := pset_eq _ _ _
  refine ok.of3 (fun j hj h3 => ?_) ⟨by rw [q3]; omega, by rw [q3]; omega⟩ (fun x hx => ?_) (fun f hf => ?_)
  · rw [pset_ne h3, pset_ne (by omega), pset_ne (by omega), pset_ne (by omega)]
  · rw [q3] at hx
    by_cases e : x = B
    · subst e
      rw [pset_ne (by omega), pset_ne (by omega), pset_ne (by omega), pset_eq, pset_ne (show 25 + x ≠ 3 by omega), pset_ne (show 25 + x ≠ 37 + x by omega), pset_eq, pset_ne (show 37 + x ≠ 3 by omega), pset_eq]
      exact ⟨by omega, by omega, hm⟩
    · have hx2 : x < 12 := by omega
      have o := ok.bit (b := x) (by omega)
      rw [pset_ne (show 13 + x ≠ 3 by omega), pset_ne (show 13 + x ≠ 37 + B by omega), pset_ne (show 13 + x ≠ 25 + B by omega), pset_ne (show 13 + x ≠ 13 + B by omega), pset_ne (show 25 + x ≠ 3 by omega), pset_ne (show 25 + x ≠ 37 + B by omega), pset_ne (show 25 + x ≠ 25 + B by omega), pset_ne (show 25 + x ≠ 13 + B by omega), pset_ne (show 37 + x ≠ 3 by omega), pset_ne (show 37 + x ≠ 37 + B by omega), pset_ne (show 37 + x ≠ 25 + B by omega), pset_ne (show 37 + x ≠ 13 + B by omega)]
      exact o
  · rw [pset_ne (show 49 + f ≠ 3 by omega), pset_ne (show 49 + f ≠ 37 + B by omega), pset_ne (show 49 + f ≠ 25 + B by omega), pset_ne (show 49 + f ≠ 13 + B by omega), pset_ne (show 57 + f ≠ 3 by omega), pset_ne (show 57 + f ≠ 37 + B by omega), pset_ne (show 57 + f ≠ 25 + B by omega), pset_ne (show 57 + f ≠ 13 + B by omega)]
    exact ok.farm hf
theorem okP.wish {P : Nat → Int} (ok : okP P) {f : Nat} {v : Int} (hf : f < 8) (hv : 0 ≤ v ∧ v ≤ P 2 - 1) : okP (pset P (49 + f) v) := by
  refine ok.of3 (fun j hj h3 => pset_ne (by omega)) (by rw [pset_ne (by omega)]; exact ok.B) (fun x hx => ?_) (fun g hg => ?_)
  · rw [pset_ne (by omega)] at hx
    have := ok.B
    rw [pset_ne (show 13 + x ≠ 49 + f by omega), pset_ne (show 25 + x ≠ 49 + f by omega), pset_ne (show 37 + x ≠ 49 + f by omega)]
    exact ok.bit hx
  · have o := ok.farm hg
    rw [pset_ne (show 57 + g ≠ 49 + f by omega)]
    by_cases e : g = f
    · subst e
      rw [pset_eq]; exact ⟨by omega, o.2⟩
    · rw [pset_ne (by omega)]; exact o
theorem okP.snowed {P : Nat → Int} (ok : okP P) {f : Nat} {v : Int} (hf : f < 8) (hv : 0 ≤ v ∧ v ≤ 10) : okP (pset P (57 + f) v) := by
  refine ok.of3 (fun j hj h3 => pset_ne (by omega)) (by rw [pset_ne (by omega)]; exact ok.B) (fun x hx => ?_) (fun g hg => ?_)
  · rw [pset_ne (by omega)] at hx
    have := ok.B
    rw [pset_ne (show 13 + x ≠ 57 + f by omega), pset_ne (show 25 + x ≠ 57 + f by omega), pset_ne (show 37 + x ≠ 57 + f by omega)]
    exact ok.bit hx
  · have o := ok.farm hg
    rw [pset_ne (show 49 + g ≠ 57 + f by omega)]
    by_cases e : g = f
    · subst e
      rw [pset_eq]; exact ⟨o.1, hv⟩
    · rw [pset_ne (by omega)]; exact o
theorem okP.lined {P : Nat → Int} (ok : okP P) {v : Int} : okP (pset P 0 v) := by
  refine ok.of3 (fun j hj h3 => pset_ne (by omega)) (by rw [pset_ne (by omega)]; exact ok.B) (fun x hx => ?_) (fun g hg => ?_)
  · rw [pset_ne (by omega)] at hx
    rw [pset_ne (show 13 + x ≠ 0 by omega), pset_ne (show 25 + x ≠ 0 by omega), pset_ne (show 37 + x ≠ 0 by omega)]
    exact ok.bit hx
  · rw [pset_ne (show 49 + g ≠ 0 by omega), pset_ne (show 57 + g ≠ 0 by omega)]
    exact ok.farm hg
theorem okP.mooded {P : Nat → Int} (ok : okP P) {f : Nat} {v : Int} (hf : f < 8) (hv : 0 ≤ v ∧ v ≤ 9) : okP (pset P (84 + f) v) := by
  refine ok.of (fun j hj => pset_ne (by omega)) ?_
  obtain ⟨s1, s2, s3⟩ := ok.st
  refine ⟨?_, ?_, fun g hg => ?_⟩
  · show 0 ≤ pset P (84 + f) v (65 + 0) ∧ pset P (84 + f) v (65 + 0) < P 1
    rw [pset_ne (by omega)]; exact s1
  · show 0 ≤ pset P (84 + f) v (65 + 2) ∧ pset P (84 + f) v (65 + 2) < 256
    rw [pset_ne (by omega)]; exact s2
  · show (0 ≤ pset P (84 + f) v (65 + (3 + g)) ∧ pset P (84 + f) v (65 + (3 + g)) < P 2) ∧ 0 ≤ pset P (84 + f) v (65 + (19 + g)) ∧ pset P (84 + f) v (65 + (19 + g)) ≤ 9
    have o := s3 g hg
    rw [pset_ne (show 65 + (3 + g) ≠ 84 + f by omega)]
    by_cases e : g = f
    · subst e
      rw [show 65 + (19 + g) = 84 + g by omega, pset_eq]
      exact ⟨o.1, hv⟩
    · rw [pset_ne (show 65 + (19 + g) ≠ 84 + f by omega)]; exact o
theorem okP.nowed {P : Nat → Int} (ok : okP P) {m : Int} (hm : 0 ≤ m ∧ m ≤ P 2 - 1) : okP (nowR P m) := by
  have e : ∀ j, j < 68 ∨ 76 ≤ j → nowR P m j = P j := fun j hj => if_neg (by omega)
  refine ok.of (fun j hj => e j (by omega)) ?_
  obtain ⟨s1, s2, s3⟩ := ok.st
  refine ⟨?_, ?_, fun g hg => ?_⟩
  · show 0 ≤ nowR P m (65 + 0) ∧ nowR P m (65 + 0) < P 1
    rw [e _ (by omega)]; exact s1
  · show 0 ≤ nowR P m (65 + 2) ∧ nowR P m (65 + 2) < 256
    rw [e _ (by omega)]; exact s2
  · show (0 ≤ nowR P m (65 + (3 + g)) ∧ nowR P m (65 + (3 + g)) < P 2) ∧ 0 ≤ nowR P m (65 + (19 + g)) ∧ nowR P m (65 + (19 + g)) ≤ 9
    rw [e (65 + (19 + g)) (by omega), show nowR P m (65 + (3 + g)) = m from if_pos (by omega)]
    exact ⟨by omega, (s3 g hg).2⟩
theorem okP.cutted {P : Nat → Int} (ok : okP P) {k : Int} (hk : 0 ≤ k ∧ k ≤ P 1 - 2) : okP (pset P 67 (m_or (P 67) (m_shl 1 k))) := by
  have hF := ok.F
  have hc := ok.cut
  obtain ⟨j, hj⟩ : ∃ j : Nat, k = (j : Int) := ⟨k.toNat, by omega⟩
  obtain ⟨c, hcc⟩ : ∃ c : Nat, P 67 = (c : Int) := ⟨(P 67).toNat, by omega⟩
  subst hj
  have e1 : m_or (P 67) (m_shl 1 (j : Int)) = ((c ||| 2 ^ j : Nat) : Int) := by
    rw [hcc, m_one (by omega), m_or_n (by omega) (p2_lt (by omega))]
  have e2 : c ||| 2 ^ j < 256 := Nat.or_lt_two_pow (n := 8) (by omega) (Nat.pow_lt_pow_right (a := 2) (by omega) (by omega))
  rw [e1]
  refine ok.of (fun j hj => pset_ne (by omega)) ?_
  obtain ⟨s1, s2, s3⟩ := ok.st
  refine ⟨?_, ?_, fun g hg => ?_⟩
  · show 0 ≤ pset P 67 _ (65 + 0) ∧ pset P 67 _ (65 + 0) < P 1
    rw [pset_ne (by omega)]; exact s1
  · show 0 ≤ pset P 67 _ 67 ∧ pset P 67 _ 67 < 256
    rw [pset_eq]; omega
  · show (0 ≤ pset P 67 _ (65 + (3 + g)) ∧ pset P 67 _ (65 + (3 + g)) < P 2) ∧ 0 ≤ pset P 67 _ (65 + (19 + g)) ∧ pset P 67 _ (65 + (19 + g)) ≤ 9
    rw [pset_ne (by omega), pset_ne (by omega)]; exact s3 g hg
theorem okP.lawed {P P' : Nat → Int} (ok : okP P) {l : Nat} (hl : l < 3) (hn : nwC P P') (h9 : P' 363 ≤ 900) (ht : tyP l (P 363).toNat P' = some [decide (l ≠ 2)]) : okP (putL l P P') := by
  have hc := ok.nc
  have h1 := hn.1
  have e : ∀ j, j ≠ 4 + l → j ≠ 7 + l → j ≠ 10 + l → putL l P P' j = P' j := by
    intro j a1 a2 a3
    unfold putL
    rw [pset_ne a3, pset_ne a2, pset_ne a1]
  have e' : ∀ j, j ≠ 4 + l → j ≠ 7 + l → j ≠ 10 + l → j ≠ 363 → j < 364 → putL l P P' j = P j := fun j a1 a2 a3 a4 a5 => (e j a1 a2 a3).trans (hn.2 j a4 (by omega))
  have e363 := e 363 (by omega) (by omega) (by omega)
  refine ⟨by rw [e' 1 (by omega) (by omega) (by omega) (by omega) (by omega)]; exact ok.F, by rw [e' 2 (by omega) (by omega) (by omega) (by omega) (by omega)]; exact ok.Mo, by rw [e' 3 (by omega) (by omega) (by omega) (by omega) (by omega)]; exact ok.B, fun b hb => ?_, fun f hf => ?_, ⟨by rw [e363]; omega, by rw [e363]; exact h9, fun k hk => ?_⟩, ?_⟩
  · rw [e' 3 (by omega) (by omega) (by omega) (by omega) (by omega)] at hb
    have hB := ok.B
    rw [e' 2 (by omega) (by omega) (by omega) (by omega) (by omega), e' (13 + b) (by omega) (by omega) (by omega) (by omega) (by omega), e' (25 + b) (by omega) (by omega) (by omega) (by omega) (by omega), e' (37 + b) (by omega) (by omega) (by omega) (by omega) (by omega)]
    exact ok.bit hb
  · rw [e' 2 (by omega) (by omega) (by omega) (by omega) (by omega), e' (49 + f) (by omega) (by omega) (by omega) (by omega) (by omega), e' (57 + f) (by omega) (by omega) (by omega) (by omega) (by omega)]
    exact ok.farm hf
  · by_cases c : k = l
    · subst c
      refine Or.inr ⟨?_, ?_, ?_, ?_, ?_⟩
      · unfold putL
        rw [pset_ne (by omega), pset_ne (by omega), pset_eq]
      · unfold putL
        rw [pset_ne (by omega), pset_eq]; omega
      · unfold putL
        rw [pset_eq]; omega
      · rw [e363]
        unfold putL
        rw [pset_ne (by omega), pset_eq, pset_eq]; omega
      · have m1 : mnP (putL k P P') k = (P' 363).toNat - (P 363).toNat := by
          unfold mnP putL
          rw [pset_eq]; omega
        have m2 : cdP (putL k P P') k = fun j => P' (364 + (P 363).toNat + j) := by
          funext j
          unfold cdP
          rw [e _ (by omega) (by omega) (by omega)]
          unfold putL
          rw [pset_ne (by omega), pset_eq]
        rw [m1, m2]
        exact ht
    · rcases ok.law hk with z | ⟨z1, z2, z3, z4, z5⟩
      · exact Or.inl (by rw [e' (4 + k) (by omega) (by omega) (by omega) (by omega) (by omega)]; exact z)
      · have q7 := e' (7 + k) (by omega) (by omega) (by omega) (by omega) (by omega)
        have q10 := e' (10 + k) (by omega) (by omega) (by omega) (by omega) (by omega)
        refine Or.inr ⟨by rw [e' (4 + k) (by omega) (by omega) (by omega) (by omega) (by omega)]; exact z1, by rw [q7]; exact z2, by rw [q10]; exact z3, by rw [q7, q10, e363]; omega, ?_⟩
        have m1 : mnP (putL l P P') k = mnP P k := by unfold mnP; rw [q10]
        rw [m1, ← z5]
        refine tyk_ext _ (fun j hj => ?_)
        unfold mnP at hj
        unfold cdP
        rw [q7, e _ (by omega) (by omega) (by omega), hn.2 _ (by omega) (by omega)]
  · have hs := ok.st
    unfold okS at hs ⊢
    rw [e' 1 (by omega) (by omega) (by omega) (by omega) (by omega), e' 2 (by omega) (by omega) (by omega) (by omega) (by omega)]
    refine ⟨?_, ?_, fun f hf => ?_⟩
    · have := hs.1
      dsimp only at this ⊢
      rw [e' _ (by omega) (by omega) (by omega) (by omega) (by omega)]; exact this
    · have := hs.2.1
      dsimp only at this ⊢
      rw [e' _ (by omega) (by omega) (by omega) (by omega) (by omega)]; exact this
    · have := hs.2.2 f hf
      dsimp only at this ⊢
      rw [e' (65 + (3 + f)) (by omega) (by omega) (by omega) (by omega) (by omega), e' (65 + (19 + f)) (by omega) (by omega) (by omega) (by omega) (by omega)]; exact this
/-- the empty row of a text -/
def empP (P : Nat → Int) : Prop := ∀ j, j < 1264 → j ≠ 1 → j ≠ 2 → P j = 0
theorem okP.head {P : Nat → Int} (h : empP P) {f m : Int} (hf : 2 ≤ f ∧ f ≤ 8) (hm : 2 ≤ m ∧ m ≤ 8) : okP (pset (pset P 1 f) 2 m) := by
  have e1 : pset (pset P 1 f) 2 m 1 = f := by rw [pset_ne (by omega), pset_eq]
  have e2 : pset (pset P 1 f) 2 m 2 = m := pset_eq _ _ _
  have e : ∀ j, j < 1264 → j ≠ 1 → j ≠ 2 → pset (pset P 1 f) 2 m j = 0 := fun j a1 a2 a3 => by rw [pset_ne a3, pset_ne a2]; exact h j a1 a2 a3
  refine ⟨by rw [e1]; exact hf, by rw [e2]; exact hm, by rw [e 3 (by omega) (by omega) (by omega)]; omega, fun b hb => ?_, fun g hg => ?_, ⟨by rw [e 363 (by omega) (by omega) (by omega)]; omega, by rw [e 363 (by omega) (by omega) (by omega)]; omega, fun l hl => Or.inl (e _ (by omega) (by omega) (by omega))⟩, ?_⟩
  · rw [e 3 (by omega) (by omega) (by omega)] at hb; omega
  · rw [e2, e _ (by omega) (by omega) (by omega), e _ (by omega) (by omega) (by omega)]; omega
  · unfold okS
    rw [e1, e2]
    refine ⟨?_, ?_, fun g hg => ?_⟩
    · dsimp only
      rw [e _ (by omega) (by omega) (by omega)]; omega
    · dsimp only
      rw [e _ (by omega) (by omega) (by omega)]; omega
    · dsimp only
      rw [e _ (by omega) (by omega) (by omega), e _ (by omega) (by omega) (by omega)]; omega
