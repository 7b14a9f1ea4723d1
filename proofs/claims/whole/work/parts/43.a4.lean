/-! rows asked for: the class's trouble with a walk, the reference's why -/
theorem dA_lt (b : Bool) {d : Nat} (hd : d < 5) : dA (hA b) d + 2 < 55 := by
  cases b
  · show 3 + 2 + 3 * d + 2 < 55
    omega
  · show 26 + 2 + 3 * d + 2 < 55
    omega
theorem nr55 : ¬ relC 55 := fun h => absurd h.2 (by decide)
def Ctx (b : Bool) (wc wr : Wd) (n d m : Nat) : Prop := n ≤ 5 ∧ d < n ∧ 1 ≤ m ∧ m ≤ 12 ∧ wi wc (hA b) 2 = nI n ∧ wi wr 3 1 = nI n ∧ wi wr 0 15 = (if n = 0 then 0 else 1) ∧ wi wc (dA (hA b) d) 1 = nI m ∧ wi wr 3 (4 + d) = nI m ∧ ∀ i : Nat, i < m → wi wc (dA (hA b) d + 1) i = wi wr 3 (9 + 12 * d + i) ∧ Fig (wi wr 3 (9 + 12 * d + i))
theorem uns_n {b : Bool} {wc wr : Wd} (hR : Rel b wc wr) : ∃ u : Nat, u ≤ 4 ∧ wi wr 3 2 = nI u := by
  obtain ⟨g1, g2, g3, g4, g5, g6, n, ⟨u, e, f1, f2, f3, f4, f5, f6, f7, f8, f9, f10, f11, f12, f13, f14, f15, f16, f17⟩, g8⟩ := hR
  exact ⟨u, f2, f11⟩
theorem row_ask {m : Nat} (hm : m < 2 ^ 30) (a : Int32) : (∃ k : Nat, k ≤ m ∧ a = nI k) ∨ (vXX11_in a 0 (nI m) = 0 ∧ (a < 0 ∨ (¬ a < 0 ∧ ¬ a ≤ nI m))) := by
  by_cases c : a < 0
  · exact Or.inr ⟨by rw [v_in, if_pos c], Or.inl c⟩
  · by_cases c2 : a ≤ nI m
    · obtain ⟨k, hk, rfl⟩ := nI_of c
      exact Or.inl ⟨k, (nI_leI hk (by omega)).mp c2, rfl⟩
    · exact Or.inr ⟨by rw [v_in, if_neg c, if_pos (Int32.not_le.mp c2)], Or.inr ⟨c, c2⟩⟩
theorem row_in {m k : Nat} (hm : m < 2 ^ 30) (h : k ≤ m) : vXX11_in (nI k) 0 (nI m) = 1 := by
  rw [v_in, if_neg (nI_pos (by omega)), if_neg (nI_nlt h (by omega))]
theorem wT1 {b : Bool} {wc : Wd} {n : Nat} (g1 : wc.2.2 = RTab b) (hn : n ≤ 5) (f4 : wi wc (hA b) 2 = nI n) {a1 a2 : Int32} (h : ¬ ∃ d : Nat, d < n ∧ a1 = nI d) {K : Int32 → Wd → Prop} (k : K 1 wc) : ClI SC mX10_walkTrouble [.ref 0, .int a1, .int a2] wc (fun x w1 => w1.2.2 = RTab b ∧ K x w1) :=
  TX10_walkTrouble a1 a2 wc b g1 _ ⟨fun q => absurd ((din_c hn f4).mp q) h, fun _ => ⟨_, rfl, g1, k⟩⟩
theorem wT2 {b : Bool} {wc wr : Wd} {n d m : Nat} (g1 : wc.2.2 = RTab b) (hc : Ctx b wc wr n d m) {a2 : Int32} (h : a2 < 0 ∨ (¬ a2 < 0 ∧ ¬ a2 ≤ nI m)) {K : Int32 → Wd → Prop} (k : K 2 wc) : ClI SC mX10_walkTrouble [.ref 0, .int (nI d), .int a2] wc (fun x w1 => w1.2.2 = RTab b ∧ K x w1) := by
  obtain ⟨hn, hd, m1, m2, f4, f5, f6, m3, m4, m5⟩ := hc
  refine TX10_walkTrouble _ a2 wc b g1 _ ⟨fun q => ⟨fun _ => ⟨_, rfl, g1, k⟩, fun z => ⟨fun z2 => ?_, fun _ => ⟨_, rfl, g1, k⟩⟩⟩, fun q => absurd ((din_c hn f4).mpr ⟨d, hd, rfl⟩) q⟩
  rw [d_clamp hn hd, m3] at z2
  rcases h with h | h
  · exact absurd h z
  · exact absurd z2 h.2
theorem wT3 {b : Bool} {wc wr : Wd} {n d m i : Nat} (g1 : wc.2.2 = RTab b) (hc : Ctx b wc wr n d m) (hi : i ≤ m) {K : Int32 → Wd → Prop} (k : ∀ w', TW 55 wc w' (run (fun j => wi wc (dA (hA b) d + 1) j) (skC 0) i) → K 0 w') : ClI SC mX10_walkTrouble [.ref 0, .int (nI d), .int (nI i)] wc (fun x w1 => w1.2.2 = RTab b ∧ K x w1) := by
  obtain ⟨hn, hd, m1, m2, f4, f5, f6, m3, m4, m5⟩ := hc
  have hlt := dA_lt b (d := d) (by omega)
  refine TX10_walkTrouble _ _ wc b g1 _ ⟨fun q => ⟨fun z => absurd z (nI_pos (by omega)), fun _ => ⟨fun z2 => ?_, fun z2 => ?_⟩⟩, fun q => absurd ((din_c hn f4).mpr ⟨d, hd, rfl⟩) q⟩
  · rw [d_clamp hn hd]
    exact z_walk (by omega) rfl (by omega) (by omega) g1 m3 hi m2 (fun w' h => ⟨_, rfl, h.1.trans g1, k w' h⟩)
  · rw [d_clamp hn hd, m3] at z2
    exact absurd (nI_le hi (by omega)) z2
theorem rW1 {wr : Wd} {n : Nat} (g2 : wr.2.2 = RM) (hn : n ≤ 5) (f5 : wi wr 3 1 = nI n) (f6 : wi wr 0 15 = (if n = 0 then 0 else 1)) {a1 a2 : Int32} (h : ¬ ∃ d : Nat, d < n ∧ a1 = nI d) {K : Int32 → Wd → Prop} (k : K 1 (wXX11_anew wr)) : ClI SR mX11_rowWhy [.ref 0, .int a1, .int a2] (wXX11_anew wr) (fun x w1 => w1.2.2 = RM ∧ K x w1) :=
  TX11_rowWhy a1 a2 _ (an_R g2) _ (isdA g2 hn f5 f6 (fun q => absurd q h) fun _ => ⟨fun _ => ⟨_, rfl, an_R g2, k⟩, fun q => absurd rfl q⟩)
theorem rW2 {b : Bool} {wc wr : Wd} {n d m : Nat} (g2 : wr.2.2 = RM) (hc : Ctx b wc wr n d m) {a2 : Int32} (h : vXX11_in a2 0 (nI m) = 0) {K : Int32 → Wd → Prop} (k : K 2 (wXX11_anew wr)) : ClI SR mX11_rowWhy [.ref 0, .int (nI d), .int a2] (wXX11_anew wr) (fun x w1 => w1.2.2 = RM ∧ K x w1) := by
  obtain ⟨hn, hd, m1, m2, f4, f5, f6, m3, m4, m5⟩ := hc
  refine TX11_rowWhy _ a2 _ (an_R g2) _ (isdA g2 hn f5 f6 (fun _ => ⟨fun q => absurd q no10, fun _ => ⟨by rw [n4]; exact nI_in (by omega) (by decide), _, rfl, an_R g2, ?_⟩⟩) fun q => absurd ⟨d, hd, rfl⟩ q)
  rw [n4, nI_clamp (by omega), an_ne (Or.inl (by decide)), m4, h, if_pos rfl]
  exact k
theorem rW3 {b : Bool} {wc wr : Wd} {n d m i : Nat} (g2 : wr.2.2 = RM) (hc : Ctx b wc wr n d m) (hi : i ≤ m) {K : Int32 → Wd → Prop} (k : K 0 (wXX11_anew wr)) : ClI SR mX11_rowWhy [.ref 0, .int (nI d), .int (nI i)] (wXX11_anew wr) (fun x w1 => w1.2.2 = RM ∧ K x w1) := by
  obtain ⟨hn, hd, m1, m2, f4, f5, f6, m3, m4, m5⟩ := hc
  refine TX11_rowWhy _ _ _ (an_R g2) _ (isdA g2 hn f5 f6 (fun _ => ⟨fun q => absurd q no10, fun _ => ⟨by rw [n4]; exact nI_in (by omega) (by decide), _, rfl, an_R g2, ?_⟩⟩) fun q => absurd ⟨d, hd, rfl⟩ q)
  rw [n4, nI_clamp (by omega), an_ne (Or.inl (by decide)), m4, row_in (by omega) hi, if_neg no10]
  exact k
/-- the reference's plain dance, behind anew -/
theorem rD {b : Bool} {wc wr : Wd} {n d m i u : Nat} (g2 : wr.2.2 = RM) (hc : Ctx b wc wr n d m) (hu : u ≤ 4) (h2 : wi wr 3 2 = nI u) (hi : i ≤ m) {w : Wd} (hw : w.2.2 = wr.2.2) (h3 : ∀ j, wi w 3 j = wi wr 3 j) {K : Wd → Prop} (k : ∀ w', TR w w' (run (fun j => wi wc (dA (hA b) d + 1) j) (skC 0) i) → K w') : ClV SR mX11_dance [.ref 0, .int (nI d), .int (nI i), .int 0, .int 0] w (fun w2 => w2.2.2 = RM ∧ K w2) := by
  obtain ⟨hn, hd, m1, m2, f4, f5, f6, m3, m4, m5⟩ := hc
  refine z_dance (by omega) (by omega) hu (hw.trans g2) ((h3 2).trans h2) (fun j hj => by rw [h3]; exact (m5 j (by omega)).2) (fun w' h => k w' ?_)
  have e : run (fun j => wi w 3 (9 + 12 * d + j)) (skR w 0 0 d u) i = run (fun j => wi wc (dA (hA b) d + 1) j) (skC 0) i := run_ext i fun j hj => ⟨(h3 _).trans (m5 j (by omega)).1.symm, (skR0 hu (by omega)).trans (skC0 (by omega)).symm⟩
  rw [e] at h
  exact h
theorem ctx_of {b : Bool} {wc wr : Wd} {n d : Nat} (hn : n ≤ 5) (hd : d < n) (f4 : wi wc (hA b) 2 = nI n) (f5 : wi wr 3 1 = nI n) (f6 : wi wr 0 15 = (if n = 0 then 0 else 1)) (fD : DanceRel b wc wr d) : ∃ m : Nat, Ctx b wc wr n d m := by
  obtain ⟨m, m1, m2, m3, m4, m5, -⟩ := fD
  exact ⟨m, hn, hd, m1, m2, f4, f5, f6, m3, m4, m5⟩
