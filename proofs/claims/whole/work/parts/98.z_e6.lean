theorem RT_n (b : Bool) (a i : Nat) : (63 ≤ a ∨ 10 ≤ i) → RTab b a i = none := sorry
theorem RT_f : ∀ a, a < 63 → ∀ i, i < 10 → ¬ (a = 0 ∧ (i = 1 ∨ i = 2)) → RTab false a i = RTab true a i := sorry
theorem RT_o (b : Bool) {a i : Nat} (h : ¬ (a = 0 ∧ (i = 1 ∨ i = 2))) : RTab b a i = RTab (!b) a i := sorry
theorem RT_sw {b : Bool} {w : Wd} (hR : w.2.2 = RTab b) : (sr (sr w 0 1 (some (hA (!b)))) 0 2 (some (hA b))).2.2 = RTab (!b) := sorry
theorem CS.ext {c : Bool} {T : Nat → Int32} {n : Nat} {A : AT} {w w' : Wd} (h : CS c T n A w) (h5 : A 9 2 ≤ 5) (e : ∀ a i, 1 ≤ a → a < 49 → wi w' a i = wi w a i) : CS c T n A w' := sorry
/-- where reading begins -/
def rdC (b : Bool) (n : Nat) (wc : Wd) : Wd := wXX2_clear (!b) (si (si (si (si (si (si wc 1 1 0) 1 2 (nI n)) 1 3 0) 1 8 0) 1 9 0) 1 10 (-1))
def rdR (n : Nat) (wr : Wd) : Wd := si (si (si (si (si (wXX11_anew wr) 0 2 0) 0 9 0) 0 13 0) 0 14 0) 0 3 (nI n)
theorem rdC_o {b : Bool} {n : Nat} {wc : Wd} {a i : Nat} (h1 : a ≠ 1) (h2 : a ≠ hA (!b)) : wi (rdC b n wc) a i = wi wc a i := sorry
theorem rdC_1 {b : Bool} {n : Nat} {wc : Wd} {i : Nat} : wi (rdC b n wc) 1 i = wi (si (si (si (si (si (si wc 1 1 0) 1 2 (nI n)) 1 3 0) 1 8 0) 1 9 0) 1 10 (-1)) 1 i := sorry
theorem rdC_s {b : Bool} {n : Nat} {T : Nat → Int32} {wc : Wd} (hn : n ≤ 600) (hT : ∀ k, k < n → wi wc 2 k = T k) : CS (!b) T n (fun _ _ => 0) (rdC b n wc) := sorry
theorem rdR_o {n : Nat} {wr : Wd} {a i : Nat} (h : ¬ (a = 0 ∧ (i = 0 ∨ i = 2 ∨ i = 3 ∨ i = 9 ∨ i = 11 ∨ i = 13 ∨ i = 14))) : wi (rdR n wr) a i = wi wr a i := sorry
theorem AB0 (n : Nat) : AB n (fun _ _ => 0) := sorry
/-- the reference as far as its first line -/
theorem r_begin {n : Nat} {wr : Wd} (hR : wr.2.2 = RM) (hn : n ≤ 600) {hh : Nat} (h6 : hh ≤ 600) (h2 : wi wr 0 2 = nI hh) (hnh : n ≤ hh) (hT : ∀ k, k < n → ¬ wi wr 1 k = -1) {QR : Option Value → Wd → Prop} (hq : ∀ wr', wr'.2.2 = RM → RS (fun k => wi wr 1 k) n (fun _ _ => 0) wr' → wi wr' 0 5 = nI 0 → FrR (rdR n wr) wr' → ClV SR mX11_next [.ref 0] wr' (fun w25 => w25.2.2 = RM ∧ ClV SR mX11_readLine [.ref 0] w25 (fun w26 => w26.2.2 = RM ∧ Go SR mX11_hall 82 [(0, .ref 0), (1, .int (nI n)), (2, .int (nI 146))] [] w26 QR))) : Cl SR mX11_hall [.ref 0, .int (nI n)] wr QR := sorry
theorem z_read {b : Bool} {n : Nat} {wc wr : Wd} (hRc : wc.2.2 = RTab b) (hR : wr.2.2 = RM) (hn : n ≤ 600) {hh : Nat} (h6 : hh ≤ 600) (h2 : wi wr 0 2 = nI hh) (hnh : n ≤ hh) (hT : ∀ k, k < n → wi wc 2 k = wi wr 1 k ∧ ¬ wi wr 1 k = -1) {Q : Int32 → Wd → Prop}
    (kF : ∀ f q wc', wc'.2.2 = RTab b → FlC (!b) (rdC b n wc) wc' f q → (∀ QR : Option Value → Wd → Prop, (∀ wr', wr'.2.2 = RM → FlR (rdR n wr) wr' f q → QR (some (.int (-1))) (wXX11_no 4 wr')) → Cl SR mX11_hall [.ref 0, .int (nI n)] wr QR) → Q 0 wc')
    (kO : ∀ A wc', wc'.2.2 = RTab b → AB n A → 0 < A 9 2 → CS (!b) (fun k => wi wr 1 k) n A wc' → FrC (!b) (rdC b n wc) wc' → (∀ QR : Option Value → Wd → Prop, (∀ wr', wr'.2.2 = RM → RS (fun k => wi wr 1 k) n A wr' → FrR (rdR n wr) wr' → ClV SR mX11_copy [.ref 4, .int 0, .ref 3, .int 0, .int 146] wr' (fun w19 => w19.2.2 = RM ∧ Go SR mX11_hall 201 [(0, .ref 0), (1, .int (nI n)), (2, .int 0)] [] (si w19 0 15 1) QR)) → Cl SR mX11_hall [.ref 0, .int (nI n)] wr QR) → Q 1 wc') :
    ClI SC mX8_read [.ref 1, .ref (hA (!b)), .int (nI n)] wc (fun x w1 => w1.2.2 = RTab b ∧ Q x w1) := sorry
theorem z_dances {w0 : Wd} {n : Nat} {A : AT} (hB : AB n A) (hR : w0.2.2 = RM) (s1 : wi w0 3 1 = nI (A 9 2)) (s2 : wi w0 3 2 = nI (A 9 3)) (sd : ∀ d, d < A 9 2 → wi w0 3 (4 + d) = nI (A 2 d) ∧ ∀ j, j < A 2 d → wi w0 3 (9 + 12 * d + j) = nI (A (10 + d) j)) {l1 : Int32} {Q : Option Value → Wd → Prop} (kk : ∀ w', w'.2.2 = RM → (∀ a i, a ≠ 5 → ¬ (a = 0 ∧ (i = 23 ∨ i = 24)) → wi w' a i = wi w0 a i) → (∀ d, d < A 9 2 → wi w' 5 d = (run (fun i => nI (A (10 + d) i)) (skC 0) (A 2 d)).1 ∧ wi w' 5 (5 + d) = (run (fun i => nI (A (10 + d) i)) (skC 0) (A 2 d)).2) → Q (some (.int (nI (A 9 2)))) (si (si w' 0 21 0) 0 22 0)) : Go SR mX11_hall 201 [(0, .ref 0), (1, .int l1), (2, .int 0)] [] w0 Q := sorry
theorem qr_hall {wc wr : Wd} (h : RelE wc wr) (a1 : Int32)  : PairI mX10_hall mX11_hall [a1] wc wr := sorry
