/-! the law's own frame, over the class's world and the reference's -/
def rL (E1 E2 : En) (bA oA : Nat) : Nat → Nat
  | 0 => E1.2.1 0
  | 1 => E2.2.1 0
  | 2 => oA
  | _ => bA
def LOK (p : Program) (l : Launch) (s : State) (m : MethodId) (meth : Method) (c : Code) (b L : Nat) (xs : Nat → Int32) (E1 E2 : En) (oA : Nat) (cO : ClassId) : Prop :=
  lw_At p s m meth c b L xs ∧ l.flags = flags0 ∧ eK SC E1 s ∧ eK SR E2 s ∧ (∀ q, eA SC E1 q → s.heap.size ≤ q ∧ ¬ eA SR E2 q ∧ q ≠ oA) ∧ (∀ q, eA SR E2 q → s.heap.size ≤ q ∧ q ≠ oA) ∧ s.heap.size ≤ oA ∧ ArrOfT s cO .long ∧ va_RA s cO .long
def oCell (cO : ClassId) (oA : Nat) (o : Int64) : va_W := [(oA, .inl (cO, 1, .inr (.inl (fun _ => o))))]
def lA (s : State) : Nat → Prop := fun q => s.heap.size ≤ q
def GoL (L : Nat) (xs : Nat → Int32) (pc : Nat) (lv : List (Nat × Value)) (st : List Value) (n : Nat) (wc wr : Wd) (o : Int64) : Prop :=
  ∀ (p : Program) (l : Launch) (e : Env) (s : State) (m : MethodId) (below : List Frame) (meth : Method) (c : Code) (b : Nat) (E1 E2 : En) (oA : Nat) (cO : ClassId) (H : Heap) (locs : List Loc) (ls : Array Slot),
    LOK p l s m meth c b L xs E1 E2 oA cO → eH SC E1 wc H → eH SR E2 wr H → va_P E1.1 vwCl (oCell cO oA o) H → va_S (lA s) s.heap H locs → lv_has ls 7 (lv.map fun q => (q.1, rv (rL E1 E2 b oA) q.2)) →
    W p l e room_1 s m #[Value.ref b] below meth c H locs (2000 + n) (20000 + 10 * n) (lw_Z below #[Value.ref b] s) (F0 m pc ls (st.map (rv (rL E1 E2 b oA))))
section LAW
variable {L : Nat} {xs : Nat → Int32} {pc : Nat} {lv : List (Nat × Value)} {st : List Value} {n : Nat} {wc wr : Wd} {o : Int64}
theorem gl_ret1 (hn : n ≤ 1000) (hd : decode code pc = .ok (.ireturn, 1)) : GoL L xs pc lv [.int 1] n wc wr o := by
  intro p l e s m below meth c b E1 E2 oA cO H locs ls G h1 h2 ho hS h3
  obtain ⟨⟨hx, hb, hr, hml, hown, hts, hX, hbl, hlocks, hgv⟩, -⟩ := G
  refine va_forget (fun q hq => hS.2.2 q hq) ?_
  refine W.widen (k := 601024) (n := 7293034) (by omega) (by omega) ?_
  exact lw_ret hx hb hr hlocks hd
theorem gl_iconst {j : Int} {v : Int32} (hd : decode code pc = .ok (.iconst j, 1)) (hv : Int32.ofInt j = v) (k : GoL L xs (pc + 1) lv (.int v :: st) n wc wr o) : GoL L xs pc lv st n wc wr o := by
  intro p l e s m below meth c b E1 E2 oA cO H locs ls G h1 h2 ho hS h3
  exact lv_iconst G.1.1 G.1.2.1 hd hv (k p l e s m below meth c b E1 E2 oA cO H locs ls G h1 h2 ho hS h3)
theorem gl_bipush {j : Int} {v : Int32} (hd : decode code pc = .ok (.bipush j, 2)) (hv : (Int8.ofInt j).toInt32 = v) (k : GoL L xs (pc + 2) lv (.int v :: st) n wc wr o) : GoL L xs pc lv st n wc wr o := by
  intro p l e s m below meth c b E1 E2 oA cO H locs ls G h1 h2 ho hS h3
  exact lv_bipush G.1.1 G.1.2.1 hd hv (k p l e s m below meth c b E1 E2 oA cO H locs ls G h1 h2 ho hS h3)
theorem gl_iload {i : Nat} {x : Int32} (hd : decode code pc = .ok (.iload i, 2)) (q : Nat) (hq : lv[q]? = some (i, .int x)) (k : GoL L xs (pc + 2) lv (.int x :: st) n wc wr o) : GoL L xs pc lv st n wc wr o := by
  intro p l e s m below meth c b E1 E2 oA cO H locs ls G h1 h2 ho hS h3
  exact lv_iload G.1.1 G.1.2.1 hd (lv_here h3 q hq) (k p l e s m below meth c b E1 E2 oA cO H locs ls G h1 h2 ho hS h3)
theorem gl_aload_n {j : Fin 4} {i x : Nat} (hd : decode code pc = .ok (.aload_n j, 1)) (hi : (j : Nat) = i) (q : Nat) (hq : lv[q]? = some (i, .ref x)) (k : GoL L xs (pc + 1) lv (.ref x :: st) n wc wr o) : GoL L xs pc lv st n wc wr o := by
  intro p l e s m below meth c b E1 E2 oA cO H locs ls G h1 h2 ho hS h3
  exact lv_aload_n G.1.1 G.1.2.1 hd hi (lv_here h3 q hq) (k p l e s m below meth c b E1 E2 oA cO H locs ls G h1 h2 ho hS h3)
theorem gl_istore {i : Nat} {x : Int32} {lv2 : List (Nat × Value)} (hd : decode code pc = .ok (.istore i, 2)) (hn : i < 7) (hl : lvS i (.int x) lv = lv2) (k : GoL L xs (pc + 2) lv2 st n wc wr o) : GoL L xs pc lv (.int x :: st) n wc wr o := by
  intro p l e s m below meth c b E1 E2 oA cO H locs ls G h1 h2 ho hS h3
  exact lv_istore G.1.1 G.1.2.1 hd h3 hn rfl (fun ls2 h4 => k p l e s m below meth c b E1 E2 oA cO H locs ls2 G h1 h2 ho hS (lvS_has hl h4))
theorem gl_iinc {i : Nat} {j : Int} {x v : Int32} {lv2 : List (Nat × Value)} (hd : decode code pc = .ok (.iinc i j, 3)) (q : Nat) (hq : lv[q]? = some (i, .int x)) (hn : i < 7) (hv : x + Int32.ofInt j = v) (hl : lvS i (.int v) lv = lv2) (k : GoL L xs (pc + 3) lv2 st n wc wr o) : GoL L xs pc lv st n wc wr o := by
  intro p l e s m below meth c b E1 E2 oA cO H locs ls G h1 h2 ho hS h3
  exact lv_iinc G.1.1 G.1.2.1 hd h3 (k := q) (by rw [List.getElem?_map, hq]; rfl) hv hn rfl (fun ls2 h4 => k p l e s m below meth c b E1 E2 oA cO H locs ls2 G h1 h2 ho hS (lvS_has hl h4))
theorem gl_iadd {x y : Int32} (hd : decode code pc = .ok (.iadd, 1)) (k : GoL L xs (pc + 1) lv (.int (x + y) :: st) n wc wr o) : GoL L xs pc lv (.int y :: .int x :: st) n wc wr o := by
  intro p l e s m below meth c b E1 E2 oA cO H locs ls G h1 h2 ho hS h3
  exact lv_iadd G.1.1 G.1.2.1 hd (k p l e s m below meth c b E1 E2 oA cO H locs ls G h1 h2 ho hS h3)
theorem gl_isub {x y : Int32} (hd : decode code pc = .ok (.isub, 1)) (k : GoL L xs (pc + 1) lv (.int (x - y) :: st) n wc wr o) : GoL L xs pc lv (.int y :: .int x :: st) n wc wr o := by
  intro p l e s m below meth c b E1 E2 oA cO H locs ls G h1 h2 ho hS h3
  exact lv_isub G.1.1 G.1.2.1 hd (k p l e s m below meth c b E1 E2 oA cO H locs ls G h1 h2 ho hS h3)
theorem gl_iand {x y : Int32} (hd : decode code pc = .ok (.iand, 1)) (k : GoL L xs (pc + 1) lv (.int (x &&& y) :: st) n wc wr o) : GoL L xs pc lv (.int y :: .int x :: st) n wc wr o := by
  intro p l e s m below meth c b E1 E2 oA cO H locs ls G h1 h2 ho hS h3
  exact lv_iand G.1.1 G.1.2.1 hd (k p l e s m below meth c b E1 E2 oA cO H locs ls G h1 h2 ho hS h3)
theorem gl_i2l {x : Int32} (hd : decode code pc = .ok (.i2l, 1)) (k : GoL L xs (pc + 1) lv (.long x.toInt64 :: st) n wc wr o) : GoL L xs pc lv (.int x :: st) n wc wr o := by
  intro p l e s m below meth c b E1 E2 oA cO H locs ls G h1 h2 ho hS h3
  exact lv_i2l G.1.1 G.1.2.1 hd rfl (k p l e s m below meth c b E1 E2 oA cO H locs ls G h1 h2 ho hS h3)
theorem gl_lcmp {x y : Int64} (hd : decode code pc = .ok (.lcmp, 1)) (k : GoL L xs (pc + 1) lv (.int (lg_cmp x y) :: st) n wc wr o) : GoL L xs pc lv (.long y :: .long x :: st) n wc wr o := by
  intro p l e s m below meth c b E1 E2 oA cO H locs ls G h1 h2 ho hS h3
  exact W.lcmp G.1.1 G.1.2.1 hd (k p l e s m below meth c b E1 E2 oA cO H locs ls G h1 h2 ho hS h3)
theorem gl_goto {off : Int} {tgt : Nat} (hd : decode code pc = .ok (.goto off, 3)) (ht : (pc : Int) + off = (tgt : Int)) (k : GoL L xs tgt lv st n wc wr o) : GoL L xs pc lv st n wc wr o := by
  intro p l e s m below meth c b E1 E2 oA cO H locs ls G h1 h2 ho hS h3
  exact lv_goto G.1.1 G.1.2.1 hd ht (k p l e s m below meth c b E1 E2 oA cO H locs ls G h1 h2 ho hS h3)
theorem gl_icmp_eq {x y : Int32} {off : Int} {tgt : Nat} (hd : decode code pc = .ok (.if_icmp .eq off, 3)) (ht : (pc : Int) + off = (tgt : Int)) (kt : x = y → GoL L xs tgt lv st n wc wr o) (kf : ¬ x = y → GoL L xs (pc + 3) lv st n wc wr o) : GoL L xs pc lv (.int y :: .int x :: st) n wc wr o := by
  intro p l e s m below meth c b E1 E2 oA cO H locs ls G h1 h2 ho hS h3
  exact lv_icmp_eq G.1.1 G.1.2.1 hd ht (fun q => kt q p l e s m below meth c b E1 E2 oA cO H locs ls G h1 h2 ho hS h3) (fun q => kf q p l e s m below meth c b E1 E2 oA cO H locs ls G h1 h2 ho hS h3)
theorem gl_icmp_gt {x y : Int32} {off : Int} {tgt : Nat} (hd : decode code pc = .ok (.if_icmp .gt off, 3)) (ht : (pc : Int) + off = (tgt : Int)) (kt : y < x → GoL L xs tgt lv st n wc wr o) (kf : ¬ y < x → GoL L xs (pc + 3) lv st n wc wr o) : GoL L xs pc lv (.int y :: .int x :: st) n wc wr o := by
  intro p l e s m below meth c b E1 E2 oA cO H locs ls G h1 h2 ho hS h3
  exact lv_icmp_gt G.1.1 G.1.2.1 hd ht (fun q => kt q p l e s m below meth c b E1 E2 oA cO H locs ls G h1 h2 ho hS h3) (fun q => kf q p l e s m below meth c b E1 E2 oA cO H locs ls G h1 h2 ho hS h3)
theorem gl_if_eq {x : Int32} {off : Int} {tgt : Nat} (hd : decode code pc = .ok (.ifCond .eq off, 3)) (ht : (pc : Int) + off = (tgt : Int)) (kt : x = 0 → GoL L xs tgt lv st n wc wr o) (kf : ¬ x = 0 → GoL L xs (pc + 3) lv st n wc wr o) : GoL L xs pc lv (.int x :: st) n wc wr o := by
  intro p l e s m below meth c b E1 E2 oA cO H locs ls G h1 h2 ho hS h3
  exact lv_if_eq G.1.1 G.1.2.1 hd ht (fun q => kt q p l e s m below meth c b E1 E2 oA cO H locs ls G h1 h2 ho hS h3) (fun q => kf q p l e s m below meth c b E1 E2 oA cO H locs ls G h1 h2 ho hS h3)
theorem gl_if_ne {x : Int32} {off : Int} {tgt : Nat} (hd : decode code pc = .ok (.ifCond .ne off, 3)) (ht : (pc : Int) + off = (tgt : Int)) (kt : ¬ x = 0 → GoL L xs tgt lv st n wc wr o) (kf : x = 0 → GoL L xs (pc + 3) lv st n wc wr o) : GoL L xs pc lv (.int x :: st) n wc wr o := by
  intro p l e s m below meth c b E1 E2 oA cO H locs ls G h1 h2 ho hS h3
  exact lv_if_ne G.1.1 G.1.2.1 hd ht (fun q => kt q p l e s m below meth c b E1 E2 oA cO H locs ls G h1 h2 ho hS h3) (fun q => kf q p l e s m below meth c b E1 E2 oA cO H locs ls G h1 h2 ho hS h3)
theorem gl_tabIn {dflt lo hi : Int} {offs : Array Int} {len : Nat} {x : Int32} {off : Int} {tgt : Nat} (hd : decode code pc = .ok (.tableswitch dflt lo hi offs, len)) (q1 : ¬ x.toInt < lo) (q2 : ¬ hi < x.toInt) (hoo : offs[(x.toInt - lo).toNat]? = some off) (ht : (pc : Int) + off = (tgt : Int)) (k : GoL L xs tgt lv st n wc wr o) : GoL L xs pc lv (.int x :: st) n wc wr o := by
  intro p l e s m below meth c b E1 E2 oA cO H locs ls G h1 h2 ho hS h3
  exact lv_tableIn G.1.1 G.1.2.1 hd q1 q2 hoo ht (k p l e s m below meth c b E1 E2 oA cO H locs ls G h1 h2 ho hS h3)
theorem gl_tabOut {dflt lo hi : Int} {offs : Array Int} {len : Nat} {x : Int32} {tgt : Nat} (hd : decode code pc = .ok (.tableswitch dflt lo hi offs, len)) (q1 : x.toInt < lo ∨ hi < x.toInt) (ht : (pc : Int) + dflt = (tgt : Int)) (k : GoL L xs tgt lv st n wc wr o) : GoL L xs pc lv (.int x :: st) n wc wr o := by
  intro p l e s m below meth c b E1 E2 oA cO H locs ls G h1 h2 ho hS h3
  exact lv_tableOut G.1.1 G.1.2.1 hd q1 ht (k p l e s m below meth c b E1 E2 oA cO H locs ls G h1 h2 ho hS h3)
/-- the script -/
theorem gl_sld {i : Int32} (hd : decode code pc = .ok (.iaload, 1)) (hin : vp_in i L) (k : GoL L xs (pc + 1) lv (.int (xs i.toNatClampNeg) :: st) n wc wr o) : GoL L xs pc lv (.int i :: .ref 3 :: st) n wc wr o := by
  intro p l e s m below meth c b E1 E2 oA cO H locs ls G h1 h2 ho hS h3
  exact va_sld G.1.1 G.1.2.1 G.1.2.2.2.2.2.2.1 G.1.2.2.2.2.2.2.2.1 (A := lA s) (Nat.not_le.mpr G.1.2.2.2.2.2.2.2.1) hS hin hd (k p l e s m below meth c b E1 E2 oA cO H locs ls G h1 h2 ho hS h3)
theorem gl_slen (hd : decode code pc = .ok (.arraylength, 1)) (k : GoL L xs (pc + 1) lv (.int (Int32.ofNat L) :: st) n wc wr o) : GoL L xs pc lv (.ref 3 :: st) n wc wr o := by
  intro p l e s m below meth c b E1 E2 oA cO H locs ls G h1 h2 ho hS h3
  exact va_slen G.1.1 G.1.2.1 G.1.2.2.2.2.2.2.1 G.1.2.2.2.2.2.2.2.1 (A := lA s) (Nat.not_le.mpr G.1.2.2.2.2.2.2.2.1) hS hd (k p l e s m below meth c b E1 E2 oA cO H locs ls G h1 h2 ho hS h3)
theorem gl_sub {lv2 : List (Nat × Value)} (ks : List Nat) (hk : ks.filterMap (fun k => lv[k]?) = lv2) (k : GoL L xs pc lv2 st n wc wr o) : GoL L xs pc lv st n wc wr o := by
  intro p l e s m below meth c b E1 E2 oA cO H locs ls G h1 h2 ho hS h3
  refine k p l e s m below meth c b E1 E2 oA cO H locs ls G h1 h2 ho hS ⟨h3.1, h3.2.1, fun q hq => ?_⟩
  obtain ⟨x, hx, rfl⟩ := List.mem_map.mp hq
  rw [← hk] at hx
  obtain ⟨i, -, hi⟩ := List.mem_filterMap.mp hx
  exact h3.2.2 _ (List.mem_map.mpr ⟨x, List.mem_of_getElem? hi, rfl⟩)
theorem map_int (φ : Nat → Nat) (is : List Int32) : (is.map Value.int).map (rv φ) = is.map Value.int := by
  rw [List.map_map]
  rfl
theorem mk_mem {S : Sh} {E : En} {w : Wd} {k : Nat} {x : Nat × va_E} (h : (mk S E.2.1 E.2.2.1 w)[k]? = some x) : eA S E x.1 := by
  have hl : k < S.length := by simpa [mk] using (List.getElem?_eq_some_iff.mp h).1
  obtain ⟨e, he⟩ : ∃ e, S[k]? = some e := ⟨_, List.getElem?_eq_getElem hl⟩
  rw [mk_at he] at h
  cases h
  exact ⟨k, hl, rfl⟩
/-- a call at the law's frame, of an object of either world -/
theorem gl_run {is : List Int32} {idx np a ci : Nat} {S : Sh} {M' : Mth} {w : Wd} {Q' : Option Value → Wd → Prop} {E : En} {p : Program} {l : Launch} {e : Env} {s : State} {m : MethodId} {below : List Frame} {meth : Method} {c : Code} {b oA : Nat} {E1 E2 : En} {cO : ClassId} {H : Heap} {locs : List Loc} {ls : Array Slot}
    (G : LOK p l s m meth c b L xs E1 E2 oA cO) (hn9 : n ≤ 1000) (hKE : eK S E s) (hHE : eH S E w H) (hS : va_S (lA s) s.heap H locs) (h3 : lv_has ls 7 (lv.map fun q => (q.1, rv (rL E1 E2 b oA) q.2))) (hav : rL E1 E2 b oA a = E.2.1 0)
    (h0 : S[0]? = some (.inl ci)) (hd : decode code pc = .ok (.invokevirtual idx, 3)) (hc : CAt R_law idx M' np) (hin : Cond.instanceMethod M'.1 ∈ TBL ∧ Cond.selects M'.1.cls M'.1 M'.1 ∈ TBL) (hD : M'.2.2.2.2 ≤ 1000) (hcl : ∃ q, vwCl[ci]? = some q ∧ q.1 = M'.1.cls) (hn : is.length = np) (hcat : (st.map fun v => v.category).sum ≤ 8)
    (hcall : Cl S M' (.ref 0 :: is.map Value.int) w Q') :
    va_Run p l e room_1 s m #[Value.ref b] below meth c H locs (2000 + n) (20000 + 10 * n) 0 0 (F0 m pc ls (((is.map Value.int).reverse ++ .ref a :: st).map (rv (rL E1 E2 b oA)))) (st.map (rv (rL E1 E2 b oA))) (mQ S E Q' (Value.ref (E.2.1 0) :: is.map Value.int).toArray) (eA S E) := by
  obtain ⟨⟨hx, hb, hr, hml, hown, hts, hX, hbl, hlocks, hgv⟩, -⟩ := id G
  have hTB : ∀ x ∈ TBL, x.before #[Value.ref b] s = true := fun x h => hts x (TBL_lw x h)
  obtain ⟨c1, c2, c3, c4, c5, c6⟩ := hc
  obtain ⟨q, hq1, hq2⟩ := hcl
  have hrec := va_recv hKE.1 hHE hq1 (mk_at h0)
  rw [hq2] at hrec
  have hmv : ∀ U : State, U.heap = H → s.WarmedH U.vm → eK S E U := fun U hU hW => eK.moved hW (fun x g1 g2 => by rw [hU]; exact hS.2.1 x g1 (Nat.not_le.mpr g1)) hKE
  have hpre : PreV s H M'.1.cls (E.2.1 0) (mP S E (.ref 0 :: is.map Value.int) w) (is.map Value.int) := ⟨mP_blind E _ w, hrec, fun U hU hW => ⟨by rw [List.map_cons, map_int]; rfl, hmv U hU hW, by rw [hU]; exact hHE⟩⟩
  have hfix : CallFix p m c code 7 s #[Value.ref b] TBL R_law := ⟨hx, hb, hml, hown, hTB⟩
  have hlo : 8 + (M'.2.2.1 + 11) + (rmD M'.2.2.2.2).locals ≤ room_1.locals := by show 8 + (M'.2.2.1 + 11) + M'.2.2.2.2 * 60 ≤ 84000; omega
  have hfr : (rmD M'.2.2.2.2).frames + 1 ≤ room_1.frames := by show M'.2.2.2.2 + 1 ≤ 2048; omega
  have hce : (2000 + n) + 0 ≤ room_1.cells ∧ (20000 + 10 * n) + 0 ≤ room_1.slots := by show (2000 + n) + 0 ≤ 601024 ∧ (20000 + 10 * n) + 0 ≤ 7293034; omega
  rw [map_rev_app, map_int, List.map_cons, show rv (rL E1 E2 b oA) (Value.ref a) = Value.ref (E.2.1 0) from congrArg Value.ref hav]
  rcases c1 with c1 | ⟨host, c1⟩
  · exact va_runV (As := is.map Value.int) (rest := st.map (rv (rL E1 E2 b oA))) hfix (hcall l E) ⟨⟨rfl, rfl, hfr, hlo, mW_warm hTB c2, List.mem_cons_self, hTB _ c2, hTB _ c3, c4, params_of c5, hTB _ c1⟩, hTB _ hin.1, hTB _ hin.2⟩ hpre rfl (by rw [List.length_map]; exact hn) h3.1 rfl (lv_room (by rw [sum_cat]; exact hcat)) hd hce
  · exact va_runVN (As := is.map Value.int) (rest := st.map (rv (rL E1 E2 b oA))) hfix (hcall l E) ⟨⟨⟨rfl, rfl, hfr, hlo, mW_warm hTB c2, List.mem_cons_self⟩, hTB _ c2, hTB _ c3, c4, params_of c5, va_Nw.use (NST_tabs _ c1) (hKE.2.2.1 _ c1)⟩, hTB _ hin.1, hTB _ hin.2⟩ hpre rfl (by rw [List.length_map]; exact hn) h3.1 rfl (lv_room (by rw [sum_cat]; exact hcat)) hd hce
theorem gl_callC {is : List Int32} {idx np : Nat} {M' : Mth} {st2 : List Value} (hn9 : n ≤ 1000) (hd : decode code pc = .ok (.invokevirtual idx, 3)) (hc : CAt R_law idx M' np) (hin : Cond.instanceMethod M'.1 ∈ TBL ∧ Cond.selects M'.1.cls M'.1 M'.1 ∈ TBL) (hD : M'.2.2.2.2 ≤ 1000) (hcl : M'.1.cls = RX10) (hn : is.length = np) (hs : (is.map Value.int).reverse ++ .ref 0 :: st = st2) (hcat : (st.map fun v => v.category).sum ≤ 8)
    (hcall : Cl SC M' (.ref 0 :: is.map Value.int) wc (fun r wc' => (∀ φ, r.map (rv φ) = r) ∧ GoL L xs (pc + 3) lv (r.toList ++ st) n wc' wr o)) : GoL L xs pc lv st2 n wc wr o := by
  subst hs
  intro p l e s m below meth c b E1 E2 oA cO H locs ls G h1 h2 ho hS h3
  have hrun := gl_run (e := e) (below := below) (is := is) (a := 0) (S := SC) (E := E1) (st := st) (ci := 9) G hn9 G.2.2.1 h1 hS h3 rfl rfl hd hc hin hD ⟨_, rfl, hcl.symm⟩ hn hcat hcall
  intro T hT X
  obtain ⟨v, st₀, t, T', Ls, g0, X', hL, e1, e2, ⟨r, w', hv, ⟨hrφ, hgo⟩, hH, hz, hk⟩, stp⟩ := hrun T hT X
  have hv : v = r.map (rv E1.2.1) := Outcome.returned.inj hv
  subst hv
  rw [g0] at hz hk
  obtain ⟨-, -, K1, K2, D1, D2, D3, D4⟩ := id G
  have hS' : va_S (lA s) s.heap T'.heap (locs ++ Ls) := ⟨Nat.le_trans hS.1 (by rw [e1]; exact hz), fun z g1 g2 => by rw [e1, hk z (Nat.lt_of_lt_of_le g1 hS.1) (fun hz2 => g2 (D1 z hz2).1)]; exact hS.2.1 z g1 g2, fun z hz2 => by
    rcases List.mem_append.mp hz2 with h | h
    · exact hS.2.2 z h
    · exact (D1 _ (hL z h)).1⟩
  have hold : ∀ (D : va_G) (ws : va_W), va_P D vwCl ws H → (∀ (k : Nat) (x : Nat × va_E), ws[k]? = some x → ¬ eA SC E1 x.1) → va_P D vwCl ws T'.heap := fun D ws hP hne => hP.kept (fun k x hx => by rw [e1]; exact hk _ (hP k x hx).lt (hne k x hx))
  obtain ⟨t2, a1, b1⟩ := hgo p l e s m below meth c b E1 E2 oA cO T'.heap (locs ++ Ls) ls G (by rw [e1]; exact hH) (hold _ _ h2 (fun k x hx q => (D1 _ q).2.1 (mk_mem hx))) (hold _ _ ho (fun k x hx q => by
    have hk1 : k < 1 := (List.getElem?_eq_some_iff.mp hx).1
    rw [show k = 0 by omega] at hx
    cases hx
    exact (D1 _ q).2.2 rfl)) hS' h3 T' rfl X'
  refine ⟨t2, stp t2 ?_, b1⟩
  have : ((r.map (rv E1.2.1)).toList ++ st.map (rv (rL E1 E2 b oA))) = (r.toList ++ st).map (rv (rL E1 E2 b oA)) := by
    have t2 : r.toList.map (rv (rL E1 E2 b oA)) = r.toList := by
      have t3 := hrφ (rL E1 E2 b oA)
      cases r with
      | none => rfl
      | some x => exact congrArg (fun z => [z]) (Option.some.inj t3)
    rw [hrφ, List.map_append, t2]
  show Steps p.tables e below (T'.setTop { F0 m pc ls _ with pc := pc + 3, stack := (r.map (rv E1.2.1)).toList ++ st.map (rv (rL E1 E2 b oA)) }) t2
  rw [this]
  exact a1
theorem gl_callR {is : List Int32} {idx np : Nat} {M' : Mth} {st2 : List Value} (hn9 : n ≤ 1000) (hd : decode code pc = .ok (.invokevirtual idx, 3)) (hc : CAt R_law idx M' np) (hin : Cond.instanceMethod M'.1 ∈ TBL ∧ Cond.selects M'.1.cls M'.1 M'.1 ∈ TBL) (hD : M'.2.2.2.2 ≤ 1000) (hcl : M'.1.cls = RX11) (hn : is.length = np) (hs : (is.map Value.int).reverse ++ .ref 1 :: st = st2) (hcat : (st.map fun v => v.category).sum ≤ 8)
    (hcall : Cl SR M' (.ref 0 :: is.map Value.int) wr (fun r wr' => (∀ φ, r.map (rv φ) = r) ∧ GoL L xs (pc + 3) lv (r.toList ++ st) n wc wr' o)) : GoL L xs pc lv st2 n wc wr o := by
  subst hs
  intro p l e s m below meth c b E1 E2 oA cO H locs ls G h1 h2 ho hS h3
  have hrun := gl_run (e := e) (below := below) (is := is) (a := 1) (S := SR) (E := E2) (st := st) (ci := 10) G hn9 G.2.2.2.1 h2 hS h3 rfl rfl hd hc hin hD ⟨_, rfl, hcl.symm⟩ hn hcat hcall
  intro T hT X
  obtain ⟨v, st₀, t, T', Ls, g0, X', hL, e1, e2, ⟨r, w', hv, ⟨hrφ, hgo⟩, hH, hz, hk⟩, stp⟩ := hrun T hT X
  have hv : v = r.map (rv E2.2.1) := Outcome.returned.inj hv
  subst hv
  rw [g0] at hz hk
  obtain ⟨-, -, K1, K2, D1, D2, D3, D4⟩ := id G
  have hS' : va_S (lA s) s.heap T'.heap (locs ++ Ls) := ⟨Nat.le_trans hS.1 (by rw [e1]; exact hz), fun z g1 g2 => by rw [e1, hk z (Nat.lt_of_lt_of_le g1 hS.1) (fun hz2 => g2 (D2 z hz2).1)]; exact hS.2.1 z g1 g2, fun z hz2 => by
    rcases List.mem_append.mp hz2 with h | h
    · exact hS.2.2 z h
    · exact (D2 _ (hL z h)).1⟩
  have hold : ∀ (D : va_G) (ws : va_W), va_P D vwCl ws H → (∀ (k : Nat) (x : Nat × va_E), ws[k]? = some x → ¬ eA SR E2 x.1) → va_P D vwCl ws T'.heap := fun D ws hP hne => hP.kept (fun k x hx => by rw [e1]; exact hk _ (hP k x hx).lt (hne k x hx))
  obtain ⟨t2, a1, b1⟩ := hgo p l e s m below meth c b E1 E2 oA cO T'.heap (locs ++ Ls) ls G (hold _ _ h1 (fun k x hx q => (D1 _ (mk_mem hx)).2.1 q)) (by rw [e1]; exact hH) (hold _ _ ho (fun k x hx q => by
    have hk1 : k < 1 := (List.getElem?_eq_some_iff.mp hx).1
    rw [show k = 0 by omega] at hx
    cases hx
    exact (D2 _ q).2 rfl)) hS' h3 T' rfl X'
  refine ⟨t2, stp t2 ?_, b1⟩
  have : ((r.map (rv E2.2.1)).toList ++ st.map (rv (rL E1 E2 b oA))) = (r.toList ++ st).map (rv (rL E1 E2 b oA)) := by
    have t2 : r.toList.map (rv (rL E1 E2 b oA)) = r.toList := by
      have t3 := hrφ (rL E1 E2 b oA)
      cases r with
      | none => rfl
      | some x => exact congrArg (fun z => [z]) (Option.some.inj t3)
    rw [hrφ, List.map_append, t2]
  show Steps p.tables e below (T'.setTop { F0 m pc ls _ with pc := pc + 3, stack := (r.map (rv E2.2.1)).toList ++ st.map (rv (rL E1 E2 b oA)) }) t2
  rw [this]
  exact a1
theorem gl_callCI {is : List Int32} {idx np : Nat} {M' : Mth} {st2 : List Value} (hn9 : n ≤ 1000) (hd : decode code pc = .ok (.invokevirtual idx, 3)) (hc : CAt R_law idx M' np) (hin : Cond.instanceMethod M'.1 ∈ TBL ∧ Cond.selects M'.1.cls M'.1 M'.1 ∈ TBL) (hD : M'.2.2.2.2 ≤ 1000) (hcl : M'.1.cls = RX10) (hn : is.length = np) (hs : (is.map Value.int).reverse ++ .ref 0 :: st = st2) (hcat : (st.map fun v => v.category).sum ≤ 8)
    (hcall : ClI SC M' (.ref 0 :: is.map Value.int) wc (fun x wc' => GoL L xs (pc + 3) lv (.int x :: st) n wc' wr o)) : GoL L xs pc lv st2 n wc wr o :=
  gl_callC hn9 hd hc hin hD hcl hn hs hcat (cl_mono (fun r w' ⟨x, e, h⟩ => by subst e; exact ⟨fun _ => rfl, h⟩) hcall)
theorem gl_callCL {is : List Int32} {idx np : Nat} {M' : Mth} {st2 : List Value} (hn9 : n ≤ 1000) (hd : decode code pc = .ok (.invokevirtual idx, 3)) (hc : CAt R_law idx M' np) (hin : Cond.instanceMethod M'.1 ∈ TBL ∧ Cond.selects M'.1.cls M'.1 M'.1 ∈ TBL) (hD : M'.2.2.2.2 ≤ 1000) (hcl : M'.1.cls = RX10) (hn : is.length = np) (hs : (is.map Value.int).reverse ++ .ref 0 :: st = st2) (hcat : (st.map fun v => v.category).sum ≤ 8)
    (hcall : ClL SC M' (.ref 0 :: is.map Value.int) wc (fun x wc' => GoL L xs (pc + 3) lv (.long x :: st) n wc' wr o)) : GoL L xs pc lv st2 n wc wr o :=
  gl_callC hn9 hd hc hin hD hcl hn hs hcat (cl_mono (fun r w' ⟨x, e, h⟩ => by subst e; exact ⟨fun _ => rfl, h⟩) hcall)
theorem gl_callRI {is : List Int32} {idx np : Nat} {M' : Mth} {st2 : List Value} (hn9 : n ≤ 1000) (hd : decode code pc = .ok (.invokevirtual idx, 3)) (hc : CAt R_law idx M' np) (hin : Cond.instanceMethod M'.1 ∈ TBL ∧ Cond.selects M'.1.cls M'.1 M'.1 ∈ TBL) (hD : M'.2.2.2.2 ≤ 1000) (hcl : M'.1.cls = RX11) (hn : is.length = np) (hs : (is.map Value.int).reverse ++ .ref 1 :: st = st2) (hcat : (st.map fun v => v.category).sum ≤ 8)
    (hcall : ClI SR M' (.ref 0 :: is.map Value.int) wr (fun x wr' => GoL L xs (pc + 3) lv (.int x :: st) n wc wr' o)) : GoL L xs pc lv st2 n wc wr o :=
  gl_callR hn9 hd hc hin hD hcl hn hs hcat (cl_mono (fun r w' ⟨x, e, h⟩ => by subst e; exact ⟨fun _ => rfl, h⟩) hcall)
theorem gl_callRL {is : List Int32} {idx np : Nat} {M' : Mth} {st2 : List Value} (hn9 : n ≤ 1000) (hd : decode code pc = .ok (.invokevirtual idx, 3)) (hc : CAt R_law idx M' np) (hin : Cond.instanceMethod M'.1 ∈ TBL ∧ Cond.selects M'.1.cls M'.1 M'.1 ∈ TBL) (hD : M'.2.2.2.2 ≤ 1000) (hcl : M'.1.cls = RX11) (hn : is.length = np) (hs : (is.map Value.int).reverse ++ .ref 1 :: st = st2) (hcat : (st.map fun v => v.category).sum ≤ 8)
    (hcall : ClL SR M' (.ref 0 :: is.map Value.int) wr (fun x wr' => GoL L xs (pc + 3) lv (.long x :: st) n wc wr' o)) : GoL L xs pc lv st2 n wc wr o :=
  gl_callR hn9 hd hc hin hD hcl hn hs hcat (cl_mono (fun r w' ⟨x, e, h⟩ => by subst e; exact ⟨fun _ => rfl, h⟩) hcall)
end LAW
