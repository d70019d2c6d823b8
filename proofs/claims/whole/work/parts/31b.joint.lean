/-! ===== both worlds beside each other ===== -/
/-- what holds between two calls: the class at (w, n, M), the reference at R -/
def Jn (w : cQ) (n : Nat × Nat) (M R : Nat → Nat → Int) (L c : Nat) : Prop :=
  (R 1 5 = (L : Int) ∧ M 1 1 = (L : Int) ∧ L ≤ 900 ∧ (∀ k, k < 900 → M 2 k = m_i2b (R 4 k) ∧ 0 ≤ R 4 k ∧ R 4 k < 256)) ∧ (M 3 1 = R 1 13 ∧ M 3 2 = R 1 14) ∧ gdP (R 2) ∧ relW M (R 2) ∧ relU w M (R 2) ∧ relT M (R 20) (R 21) (R 22) ∧ relI w M (R 3) (R 2) ∧ (okY w.2.2.1 ∧ okR w.2.2.2.1) ∧ srI w n M c
def J (w : cQ) (n : Nat × Nat) (M R : Nat → Nat → Int) : Prop := ∃ L c, Jn w n M R L c
/-- the class's call, then the reference's: the same answer, and all holds again -/
def JO (kC kR : Nat) (as : List mV) (w : cQ) (n : Nat × Nat) (M R : Nat → Nat → Int) : Prop := CW 60 kC ((2, 1) :: as) w M n (fun a w' M' n' => CR 60 kR ((2, 1) :: as) R (22, 40282) (fun b R' => b = a ∧ J w' n' M' R'))
theorem CW.ofF {w : cQ} {d k : Nat} {as : List mV} {M : Nat → Nat → Int} {n : Nat × Nat} {Ψ : Int → cQ → (Nat → Nat → Int) → Nat × Nat → Prop} (h : CF d k as w M n (fun a M' => Ψ a w M' n)) : CW d k as w M n Ψ :=
  WPm_mono gT d _ _ _ _ _ (fun r h' z => by obtain ⟨N, e, z⟩ := z; exact ⟨w, N, n, e, z⟩) h
section
variable {w : cQ} {n : Nat × Nat} {M R : Nat → Nat → Int} {L c : Nat}
theorem Jn.tap (h : Jn w n M R L c) : R 1 5 = (L : Int) ∧ M 1 1 = (L : Int) ∧ L ≤ 900 ∧ (∀ k, k < 900 → M 2 k = m_i2b (R 4 k) ∧ 0 ≤ R 4 k ∧ R 4 k < 256) := h.1
theorem Jn.flt (h : Jn w n M R L c) : M 3 1 = R 1 13 ∧ M 3 2 = R 1 14 := h.2.1
theorem Jn.gd (h : Jn w n M R L c) : gdP (R 2) := h.2.2.1
theorem Jn.ok (h : Jn w n M R L c) : okP (R 2) := h.2.2.1.1
theorem Jn.h92 (h : Jn w n M R L c) : 0 ≤ R 2 92 ∧ R 2 92 ≤ 10 := h.2.2.1.2.1
theorem Jn.W (h : Jn w n M R L c) : relW M (R 2) := h.2.2.2.1
theorem Jn.U (h : Jn w n M R L c) : relU w M (R 2) := h.2.2.2.2.1
theorem Jn.T (h : Jn w n M R L c) : relT M (R 20) (R 21) (R 22) := h.2.2.2.2.2.1
theorem Jn.I (h : Jn w n M R L c) : relI w M (R 3) (R 2) := h.2.2.2.2.2.2.1
theorem Jn.Y (h : Jn w n M R L c) : okY w.2.2.1 ∧ okR w.2.2.2.1 := h.2.2.2.2.2.2.2.1
theorem Jn.S (h : Jn w n M R L c) : srI w n M c := h.2.2.2.2.2.2.2.2
theorem Jn.hZ (h : Jn w n M R L c) : ∀ i, i < 4 → R 20 i ≠ -1 → 0 ≤ R 21 i ∧ R 21 i ≤ 40 := fun i hi hn => ((h.T i hi).2 hn).2.2.1
theorem tapK {M' R' : Nat → Nat → Int} (h : Jn w n M R L c) (kr : KR R R') (h1 : M' 1 = M 1) (h2 : M' 2 = M 2) : R' 1 5 = (L : Int) ∧ M' 1 1 = (L : Int) ∧ L ≤ 900 ∧ (∀ k, k < 900 → M' 2 k = m_i2b (R' 4 k) ∧ 0 ≤ R' 4 k ∧ R' 4 k < 256) := by
  obtain ⟨t1, t2, t3, t4⟩ := h.tap
  exact ⟨(kr.2 5 (by omega)).trans t1, by rw [h1]; exact t2, t3, fun k hk => by rw [h2, kr.1 4 (by omega)]; exact t4 k hk⟩
theorem fltK {M' R' : Nat → Nat → Int} (h : Jn w n M R L c) (kr : KR R R') (h3 : M' 3 = M 3) : M' 3 1 = R' 1 13 ∧ M' 3 2 = R' 1 14 := by
  rw [h3, kr.2 13 (by omega), kr.2 14 (by omega)]
  exact h.flt
/-- a question, with scratch rows alone -/
theorem Jn.kc {M' R' : Nat → Nat → Int} (h : Jn w n M R L c) (kc : KC M M') (kr : KR R R') (e : R' 2 = R 2) : J w n M' R' := by
  refine ⟨L, c, tapK h kr (kc 1 (by omega)) (kc 2 (by omega)), fltK h kr (kc 3 (by omega)), by rw [e]; exact h.gd, by rw [e]; exact h.W.kc kc, ?_, ?_, ?_, h.Y, h.S.kc (fun x hx => kc x (by omega))⟩
  · rw [e]
    exact h.U.congr h.h92 (kc 9 (by omega)) (fun x h1 h2 => kc x (by omega)) (fun _ _ _ => rfl)
  · rw [kr.1 20 (by omega), kr.1 21 (by omega), kr.1 22 (by omega)]
    exact h.T.congr (fun x h1 h2 => kc x (by omega))
  · rw [e, kr.1 3 (by omega)]
    exact h.I.keep rfl (fun x h1 h2 => kc x (by omega)) (fun _ _ => rfl)
/-- rows of the search change -/
theorem Jn.ky {w' : cQ} {n' : Nat × Nat} {M' R' : Nat → Nat → Int} {c' : Nat} (h : Jn w n M R L c) (ew : eqW w w') (s : srI w' n' M' c') (ky : KY M M') (kr : KR R R') (e : R' 2 = R 2) : J w' n' M' R' := by
  obtain ⟨w1, w2, w3, w4, w5, w6⟩ := ew
  refine ⟨L, c', tapK h kr (ky 1 (by omega)) (ky 2 (by omega)), fltK h kr (ky 3 (by omega)), by rw [e]; exact h.gd, by rw [e]; exact h.W.ky ky, ?_, ?_, ?_, ?_, s⟩
  · rw [e]
    have u := h.U.congr h.h92 (ky 9 (by omega)) (fun x h1 h2 => ky x (by omega)) (fun _ _ _ => rfl)
    unfold relU stw at u ⊢
    rw [w6]; exact u
  · rw [kr.1 20 (by omega), kr.1 21 (by omega), kr.1 22 (by omega)]
    exact h.T.congr (fun x h1 h2 => ky x (by omega))
  · rw [e, kr.1 3 (by omega)]
    exact h.I.keep w5 (fun x h1 h2 => ky x (by omega)) (fun _ _ => rfl)
  · rw [w3, w4]; exact h.Y
/-- a deed -/
theorem Jn.kd {s : Nat → Nat} {M' R' : Nat → Nat → Int} {P' : Nat → Int} (h : Jn w n M R L c) (kd : KD M M') (g : gdQ (R 2) P') (rw' : relW M' P') (ru : relU (stF w s) M' P') (kr : KR R R') (e : R' 2 = P') : J (stF w s) n M' R' := by
  refine ⟨L, c, tapK h kr (kd 1 (by omega)) (kd 2 (by omega)), fltK h kr (kd 3 (by omega)), by rw [e]; exact g.1, by rw [e]; exact rw', by rw [e]; exact ru, ?_, ?_, h.Y, ?_⟩
  · rw [kr.1 20 (by omega), kr.1 21 (by omega), kr.1 22 (by omega)]
    exact h.T.congr (fun x h1 h2 => kd x (by omega))
  · rw [e, kr.1 3 (by omega)]
    exact h.I.keep rfl (fun x h1 h2 => kd x (by omega)) g.2
  · exact (h.S.kc (fun x hx => kd x (by omega)) : srI w n M' c)
theorem Jn.kd0 {M' R' : Nat → Nat → Int} {P' : Nat → Int} (h : Jn w n M R L c) (kd : KD M M') (g : gdQ (R 2) P') (rw' : relW M' P') (ru : relU w M' P') (kr : KR R R') (e : R' 2 = P') : J w n M' R' := by
  have := h.kd (s := stw w) kd g rw' (by rw [stF_self]; exact ru) kr e
  rw [stF_self] at this
  exact this
theorem j_fault (x : Int) (h : Jn w n M R L c) : JO 123 213 [(0, x)] w n M R := CW.ofF (c_fault x (by
  rw [h.flt.1, h.flt.2]
  exact r_fault x (fun R' kr e => ⟨rfl, h.kc (KC.refl M) kr e⟩)))
theorem j_farm (f x : Int) (h : Jn w n M R L c) : JO 124 229 [(0, f), (0, x)] w n M R := CW.ofF (c_farm f x h.W h.ok (fun M' kc => r_farm f x rfl h.ok (fun R' kr e => ⟨rfl, h.kc kc kr e⟩)))
theorem j_bit (f x : Int) (h : Jn w n M R L c) : JO 125 230 [(0, f), (0, x)] w n M R := CW.ofF (c_bit f x h.W h.ok (fun M' kc => r_bit f x rfl h.ok (fun R' kr e => ⟨rfl, h.kc kc kr e⟩)))
theorem j_wire (f x : Int) (h : Jn w n M R L c) : JO 126 231 [(0, f), (0, x)] w n M R := CW.ofF (c_wire f x h.W h.ok (r_wire f x rfl h.ok (fun R' kr e => ⟨rfl, h.kc (KC.refl M) kr e⟩)))
theorem j_likes (f x : Int) (h : Jn w n M R L c) : JO 127 232 [(0, f), (0, x)] w n M R := CW.ofF (c_likes f x h.W h.ok (fun M' kc => r_likes f x rfl h.ok (fun R' kr e => ⟨rfl, h.kc kc kr e⟩)))
theorem j_tell (x y : Int) (h : Jn w n M R L c) : JO 128 239 [(0, x), (0, y)] w n M R := c_tell x y h.W h.U h.ok h.h92 (fun s M' kd r u => r_tell x y rfl h.ok h.h92 (fun R' kr e => ⟨rfl, h.kd kd (gd_tell h.gd x y) r u kr e⟩))
theorem j_cut (x : Int) (h : Jn w n M R L c) : JO 129 240 [(0, x)] w n M R := c_cut x h.W h.U h.ok h.h92 (fun s M' kd r u => r_cut x rfl h.ok h.h92 (fun R' kr e => ⟨rfl, h.kd kd (gd_cut h.gd x) r u kr e⟩))
theorem j_mood (x y : Int) (h : Jn w n M R L c) : JO 130 241 [(0, x), (0, y)] w n M R := c_mood x y h.W h.U h.ok h.h92 (fun s M' kd r u => r_mood x y rfl h.ok h.h92 (fun R' kr e => ⟨rfl, h.kd kd (gd_mood h.gd x y) r u kr e⟩))
theorem j_go (x : Int) (h : Jn w n M R L c) : JO 131 242 [(0, x)] w n M R := c_go x h.W h.U h.ok h.h92 (fun s M' kd r u => r_go x rfl h.ok h.h92 (fun R' kr e => ⟨rfl, h.kd kd (gd_go h.gd x) r u kr e⟩))
theorem j_undo (x : Int) (h : Jn w n M R L c) : JO 132 243 [(0, x)] w n M R := CW.ofF (c_undo x h.W h.U h.ok h.h92 (fun M' kd r u => r_undo x rfl h.ok h.h92 (fun R' kr e => ⟨rfl, h.kd0 kd (gd_undo h.gd x) r u kr e⟩)))
theorem j_judge (t x : Int) (h : Jn w n M R L c) : JO 133 250 [(0, t), (0, x)] w n M R := CW.ofF (c_judge t x h.W h.T h.ok (fun M' kd k9 r => r_judge t x rfl h.ok h.hZ (fun R' kr e => ⟨rfl, h.kd0 kd (gdQ.refl h.gd) r (h.U.congr h.h92 (k9 9 (Or.inl rfl)) (fun x h1 h2 => k9 x (Or.inr ⟨h1, h2⟩)) (fun _ _ _ => rfl)) kr e⟩)))
theorem j_perform (t : Int) (h : Jn w n M R L c) : JO 135 251 [(0, t)] w n M R := c_perform t h.W h.U h.T h.ok h.h92 (fun s M' kd r u => r_perform t rfl h.ok h.h92 h.hZ (fun R' kr e => ⟨rfl, h.kd kd (gd_perform h.gd _ _ _ t) r u kr e⟩))
theorem j_winter (x t : Int) (h : Jn w n M R L c) : JO 136 254 [(0, x), (0, t)] w n M R := c_winter x t h.W h.U h.ok h.h92 (fun s M' kd r u => r_winter x t rfl h.ok h.h92 (fun R' kr e => ⟨rfl, h.kd kd (gd_winter h.gd x t) r u kr e⟩))
theorem j_heardBy (f : Int) (h : Jn w n M R L c) : JO 138 255 [(0, f)] w n M R := CW.ofF (c_heardBy f h.W h.ok (fun M' kc => r_heardBy f rfl h.ok (fun R' kr e => ⟨rfl, h.kc kc kr e⟩)))
theorem j_ear (h : Jn w n M R L c) : JO 139 256 [] w n M R := CW.ofF (c_ear h.W h.ok (fun M' kc => r_ear rfl h.ok (fun R' kr e => ⟨rfl, h.kc kc kr e⟩)))
theorem j_needs (f g : Int) (h : Jn w n M R L c) : JO 140 258 [(0, f), (0, g)] w n M R := CW.ofF (c_needs f g h.W h.ok (fun M' kc => r_needs f g rfl h.ok (fun R' kr e => ⟨rfl, h.kc kc kr e⟩)))
theorem j_pieces (h : Jn w n M R L c) : JO 141 259 [] w n M R := CW.ofF (c_pieces h.W h.ok (r_pieces rfl h.ok (fun R' kr e => ⟨rfl, h.kc (KC.refl M) kr e⟩)))
theorem j_listeners (h : Jn w n M R L c) : JO 142 260 [] w n M R := CW.ofF (c_listeners h.W h.ok (fun M' kc => r_listeners rfl h.ok (fun R' kr e => ⟨rfl, h.kc kc kr e⟩)))
theorem j_reach (m : Int) (h : Jn w n M R L c) : JO 144 263 [(0, m)] w n M R := CW.ofF (c_reach m h.W h.ok (fun M' kc => r_reach m rfl h.ok (fun R' kr e => ⟨rfl, h.kc kc kr e⟩)))
theorem j_fewest (x y : Int) (h : Jn w n M R L c) : JO 145 269 [(0, x), (0, y)] w n M R := c_fewest x y h.S h.W h.ok (fun w' n' M' c' ew s ky => r_fewest x y rfl h.ok (fun R' kr e => ⟨rfl, h.ky ew s ky kr e⟩))
theorem j_way (x y i : Int) (h : Jn w n M R L c) : JO 146 271 [(0, x), (0, y), (0, i)] w n M R := c_way x y i h.S h.W h.ok (fun w' n' M' c' ew s ky => r_way x y i rfl h.ok (fun R' kr e => ⟨rfl, h.ky ew s ky kr e⟩))
theorem Jn.way {p : Nat × Nat} (h : Jn w n M R L c) (hp : okY p) : Jn (wWay w p) n M R L c := ⟨h.tap, h.flt, h.gd, h.W, h.U, h.T, h.I, ⟨hp, h.Y.2⟩, h.S⟩
theorem Jn.row {p : Nat × Nat} (h : Jn w n M R L c) (hp : okR p) : Jn (wRow w p) n M R L c := ⟨h.tap, h.flt, h.gd, h.W, h.U, h.T, h.I, ⟨h.Y.1, hp⟩, h.S⟩
theorem j_ways (f t x : Int) (h : Jn w n M R L c) : JO 147 274 [(0, f), (0, t), (0, x)] w n M R := c_ways f t x h.Y.1 h.W h.ok (fun p M' hp kc => r_ways f t x rfl h.ok (fun R' kr e => ⟨rfl, (h.way hp).kc kc kr e⟩))
theorem j_full (x y : Int) (h : Jn w n M R L c) : JO 148 275 [(0, x), (0, y)] w n M R := c_full x y h.S h.W h.ok (fun w' n' M' c' ew s ky => r_full x y rfl h.ok (fun R' kr e => ⟨rfl, h.ky ew s ky kr e⟩))
theorem j_fullWay (x y i : Int) (h : Jn w n M R L c) : JO 149 276 [(0, x), (0, y), (0, i)] w n M R := c_fullWay x y i h.S h.W h.ok (fun w' n' M' c' ew s ky => r_fullWay x y i rfl h.ok (fun R' kr e => ⟨rfl, h.ky ew s ky kr e⟩))
theorem j_ends (h : Jn w n M R L c) : JO 151 277 [] w n M R := CW.ofF (c_ends h.W h.ok (fun M' kc => r_ends rfl h.ok (fun R' kr e => ⟨rfl, h.kc kc kr e⟩)))
theorem j_forces (f m : Int) (h : Jn w n M R L c) : JO 152 282 [(0, f), (0, m)] w n M R := CW.ofF (c_forces f m h.W h.ok (fun M' kc => r_forces f m rfl h.ok (fun R' kr e => ⟨rfl, h.kc kc kr e⟩)))
theorem j_power (f : Int) (h : Jn w n M R L c) : JO 153 283 [(0, f)] w n M R := CW.ofF (c_power f h.W h.ok (fun M' kc => r_power f rfl h.ok (fun R' kr e => ⟨rfl, h.kc kc kr e⟩)))
theorem j_best (f m : Int) (h : Jn w n M R L c) : JO 154 284 [(0, f), (0, m)] w n M R := CW.ofF (c_best f m h.W h.ok (fun M' kc => r_best f m rfl h.ok (fun R' kr e => ⟨rfl, h.kc kc kr e⟩)))
theorem j_ally (f m : Int) (h : Jn w n M R L c) : JO 155 285 [(0, f), (0, m)] w n M R := CW.ofF (c_ally f m h.W h.ok (fun M' kc => r_ally f m rfl h.ok (fun R' kr e => ⟨rfl, h.kc kc kr e⟩)))
theorem j_tales (h : Jn w n M R L c) : JO 156 286 [] w n M R := CW.ofF (c_tales h.W h.ok (r_tales rfl h.ok (fun R' kr e => ⟨rfl, h.kc (KC.refl M) kr e⟩)))
theorem j_joins (x y : Int) (h : Jn w n M R L c) : JO 157 291 [(0, x), (0, y)] w n M R := c_joins x y h.S h.W h.ok (fun w' n' M' c' ew s ky => r_joins x y rfl h.ok (fun R' kr e => ⟨rfl, h.ky ew s ky kr e⟩))
theorem j_joinBy (x y i : Int) (h : Jn w n M R L c) : JO 158 292 [(0, x), (0, y), (0, i)] w n M R := c_joinBy x y i h.S h.W h.ok (fun w' n' M' c' ew s ky => r_joinBy x y i rfl h.ok (fun R' kr e => ⟨rfl, h.ky ew s ky kr e⟩))
theorem j_rows (t f : Int) (h : Jn w n M R L c) : JO 159 296 [(0, t), (0, f)] w n M R := c_rows t f h.Y.2 h.W h.T h.ok (fun p M' hp kc => r_rows t f rfl h.ok h.hZ (fun R' kr e => ⟨rfl, (h.row hp).kc kc kr e⟩))
theorem j_sureBit (t f p : Int) (h : Jn w n M R L c) : JO 160 297 [(0, t), (0, f), (0, p)] w n M R := CW.ofF (c_sureBit t f p h.W h.T h.ok (fun M' kc => r_sureBit t f p rfl h.ok h.hZ (fun R' kr e => ⟨rfl, h.kc kc kr e⟩)))
theorem j_tellers (t : Int) (h : Jn w n M R L c) : JO 162 299 [(0, t)] w n M R := c_tellers t h.Y.2 h.W h.T h.ok (fun p M' hp kc => r_tellers t rfl h.ok h.hZ (fun R' kr e => ⟨rfl, (h.row hp).kc kc kr e⟩))
theorem j_teller (t p : Int) (h : Jn w n M R L c) : JO 163 300 [(0, t), (0, p)] w n M R := CW.ofF (c_teller t p h.W h.T h.ok (fun M' kc => r_teller t p rfl h.ok h.hZ (fun R' kr e => ⟨rfl, h.kc kc kr e⟩)))
theorem j_better (h : Jn w n M R L c) : JO 165 301 [] w n M R := CW.ofF (c_better h.W h.ok (fun M' kc => r_better rfl h.ok (fun R' kr e => ⟨rfl, h.kc kc kr e⟩)))
theorem j_fairest (h : Jn w n M R L c) : JO 167 303 [] w n M R := CW.ofF (c_fairest h.W h.ok (fun M' kc => r_fairest rfl h.ok (fun R' kr e => ⟨rfl, h.kc kc kr e⟩)))
theorem j_snow (f g x : Int) (h : Jn w n M R L c) : JO 169 307 [(0, f), (0, g), (0, x)] w n M R := CW.ofF (c_snow f g x h.W h.ok (r_snow f g x rfl h.ok (fun R' kr e => ⟨rfl, h.kc (KC.refl M) kr e⟩)))
theorem j_left (f m : Int) (h : Jn w n M R L c) : JO 171 308 [(0, f), (0, m)] w n M R := CW.ofF (c_left f m h.W h.ok (r_left f m rfl h.ok (fun R' kr e => ⟨rfl, h.kc (KC.refl M) kr e⟩)))
theorem j_count (x : Int) (h : Jn w n M R L c) : JO 177 316 [(0, x)] w n M R := CW.ofF (c_count x h.W h.U.1 h.ok (by
  rw [h.tap.2.1, ← h.tap.1]
  exact r_count x rfl h.ok (fun R' kr e => ⟨rfl, h.kc (KC.refl M) kr e⟩)))
end
