/-! The law on fifty 13s: every turn is takeBack at no move. Cells are counted from below. -/
/-- a room that is large enough -/
def R9 : Room := { frames := 11, cells := 2000, slots := 20000, locals := 468 }
/-- what is made for refusals ahead of turn n -/
def cnt (n : Nat) : Nat := 26 + n + 13 * ((n + 14) / 15)
theorem cnt_a : ∀ n, n < 50 → 0 < n % 15 → cnt (n + 1) = cnt n + 1 := by decide +kernel
theorem cnt_b : ∀ n, n < 50 → ¬ 0 < n % 15 → cnt (n + 1) = cnt n + 14 := by decide +kernel
theorem im4 : ∀ n, n < 50 → nI n - nI n / 4 * 4 = nI (n % 4) := by decide +kernel
theorem im8 : ∀ n, n < 50 → nI n - nI n / 8 * 8 = nI (n % 8) := by decide +kernel
theorem im15 : ∀ n, n < 50 → nI n - nI n / 15 * 15 = nI (n % 15) := by decide +kernel
theorem im16 : ∀ n, n < 50 → nI n - nI n / 16 * 16 = nI (n % 16) := by decide +kernel
section
variable {p : Program} {l : Launch} {e : Env} {R : Room} {s : State} {m : MethodId} {args : Array Value} {below : List Frame} {meth : Method} {c : Code} {H : Heap} {locs : List Loc} {cells slots : Nat} {Q : State → Prop} {pc : Nat} {ls : Array Slot} {st0 rest : List Value} {a : Array Value} {A : Nat → Prop} {H0 : Heap} {D : va_G} {ws : va_W}
theorem xcd (hr : va_Run p l e R s m args below meth c H locs cells slots 0 0 (F0 m pc ls st0) rest (va_Qi (fun (r : Int32) (_ : Unit) => r = 13) (fun _ _ => True) (fun _ => False) a) (fun _ => False)) (hP : va_P D vwCl ws H) (hS : va_S A H0 H locs)
    (kk : ∀ (H1 : Heap) (locs1 : List Loc), va_P D vwCl ws H1 → va_S A H0 H1 locs1 → H.size ≤ H1.size → W p l e R s m args below meth c H1 locs1 cells slots Q (F0 m (pc + 3) ls (.int 13 :: rest))) : W p l e R s m args below meth c H locs cells slots Q (F0 m pc ls st0) := by
  refine va_calli hr hS (fun q _ h => h.elim) (fun q h => h.elim) (fun r u t H1 locs1 ht hvm hw hB hz1 hk1 hS1 => ?_)
  subst hw
  exact kk H1 locs1 (hP.kept (fun k q hq => hk1 q.1 (vx_lt hP hq) (fun h => h))) hS1 hz1
end
/-- dice on such a script -/
theorem c_L_dice (l : Launch) (b L : Nat) (xs : Nat → Int32) (n : Nat) (hn : n < L) (hL : L ≤ 260) (h13 : xs n = 13) : Met l yL_dice wsL_dice ({ frames := 0, cells := 0, slots := 0, locals := 0 }) (va_Pc [.ref b, .int (nI n)] (fun U => va_X b L xs U U.heap)) (va_Qi (fun (r : Int32) (_ : Unit) => r = 13) (fun _ _ => True) (fun _ => False)) 0 0 (fun _ => False) := by
  refine Met.ofW (cc := cL_dice) (maxL := 2) (ret := some .int) (by decide) rfl ?_
  intro p e s m args below meth c s₁ B hml hv'
  obtain ⟨rfl, hX⟩ := hv'
  have hbl : b < s.heap.size := by
    obtain ⟨scr, h1, -⟩ := id hX
    exact (Array.getElem?_eq_some_iff.mp h1).1
  have hbA : ¬ (fun _ : Nat => False) b := fun h => h
  have hS : va_S (fun _ => False) s.heap s.heap [] := va_S.rf
  have hx := B.exec
  have hb := B.bytes
  have hown : s.vm.findClass RL = some m.cls := findClass_of_methodNamed B.named
  have hts := atoms_spec (ws := wsL_dice) B.pre
  have hl := lv_entry ([.ref b, .int (nI n)]) (n := 2) (Nat.le_of_ble_eq_true rfl)
  rw [lg_entry_eq]
  generalize (lg_sl ([.ref b, .int (nI n)]) ++ List.replicate (2 - (lg_sl ([.ref b, .int (nI n)])).length) Slot.unset).toArray = ls at hl ⊢
  have hl : lv_has ls 2 [(0, .ref b), (1, .int (nI n))] := hl
  refine lv_iload_n hx hb dL_dice_0 rfl (lv_at hl 1 rfl) ?_
  refine lv_aload_n hx hb dL_dice_1 rfl (lv_at hl 0 rfl) ?_
  refine va_slen hx hb hX hbl hbA hS dL_dice_2 ?_
  refine lv_icmp_ge (tgt := 12) hx hb dL_dice_3 (by decide) (fun c_3 => ?_) (fun c_3 => ?_)
  · exact absurd ((nI_leI (a := L) (b := n) (by omega) (by omega)).mp c_3) (by omega)
  refine lv_aload_n hx hb dL_dice_6 rfl (lv_at hl 0 rfl) ?_
  refine lv_iload_n hx hb dL_dice_7 rfl (lv_at hl 1 rfl) ?_
  refine va_sld hx hb hX hbl hbA hS (vp_in_nI hn (by omega)) dL_dice_8 ?_
  refine xti (y := 13) ((congrArg xs (nI_clamp (by omega))).trans h13) ?_
  refine lv_goto (tgt := 31) hx hb dL_dice_9 (by decide) ?_
  refine lv_ldc (v := 2147483647) hx hb hown (hts (.constant RL 8 (2147483647)) (by decide +kernel)) dL_dice_31 ?_
  refine lv_iand hx hb dL_dice_33 ?_
  refine xti (y := 13) (by decide +kernel) ?_
  exact W.iret hx hb B.returns (fun t ht hW => ⟨⟨13, (), rfl, rfl, trivial⟩, hS.F ht⟩) hS.2.2 dL_dice_34 B.notSynchronized
theorem dice_pre {s : State} {H : Heap} {locs : List Loc} {A : Nat → Prop} {b L n : Nat} {xs : Nat → Int32} (hX : va_X b L xs s s.heap) (hbl : b < s.heap.size) (hbA : ¬ A b) (hS : va_S A s.heap H locs) : PreS s H (va_Pc [.ref b, .int (nI n)] (fun U => va_X b L xs U U.heap)) [.ref b, .int (nI n)] :=
  ⟨fun a U g mk h => ⟨h.1, va_X.moved (u := U) (U := U.calling g mk a) (Vm.Alike.refl U.vm) h.2⟩, fun U hU hW => ⟨rfl, by show va_X b L xs U U.heap; rw [hU]; exact va_X.moved hW.alike (hX.kept (hS.2.1 b hbl hbA))⟩⟩
abbrev xLX := Nat × Nat × (Nat → Nat) × (Nat → Nat) × (Nat → Nat → Int32) × (Nat → Nat → Int32) × (Nat → Int64) × (Nat → Int64) × (Nat → Int64) × (Nat → Int32) × (Nat → Int32) × (Nat → Int64) × Int64 × Int64 × Int32 × Int32 × Int32 × Int32 × Int32 × Int32
abbrev xLW (cI cZ cJ : ClassId) (h0 n0 a0 b0 w0 k0 t0 br es qr qp qe : Nat) (zz : xLX) : va_W := [(h0, .inr (5, [.ref n0, .ref w0, .ref k0, .ref t0, .int zz.2.2.2.2.2.2.2.2.2.2.2.2.2.2.2.2.2.2.2])), (t0, .inr (4, [.ref br, .ref es, .ref zz.1, .ref zz.2.1, .long zz.2.2.2.2.2.2.2.2.2.2.2.2.1, .long zz.2.2.2.2.2.2.2.2.2.2.2.2.2.1, .int zz.2.2.2.2.2.2.2.2.2.2.2.2.2.2.1, .int zz.2.2.2.2.2.2.2.2.2.2.2.2.2.2.2.1, .int zz.2.2.2.2.2.2.2.2.2.2.2.2.2.2.2.2.1])), (br, .inr (3, [.int (zz.2.2.2.2.2.2.2.2.2.1 0), .int (zz.2.2.2.2.2.2.2.2.2.1 1), .int (zz.2.2.2.2.2.2.2.2.2.1 2), .int (zz.2.2.2.2.2.2.2.2.2.1 3), .int (zz.2.2.2.2.2.2.2.2.2.1 4), .int (zz.2.2.2.2.2.2.2.2.2.1 5), .int (zz.2.2.2.2.2.2.2.2.2.1 6), .int (zz.2.2.2.2.2.2.2.2.2.1 7)])), (es, .inl (cJ, 9, .inr (.inl zz.2.2.2.2.2.2.2.2.1))), (zz.1, .inr (1, [.ref (zz.2.2.1 0), .ref (zz.2.2.1 1), .ref (zz.2.2.1 2), .ref (zz.2.2.1 3), .ref (zz.2.2.1 4), .ref (zz.2.2.1 5), .ref (zz.2.2.1 6), .int zz.2.2.2.2.2.2.2.2.2.2.2.2.2.2.2.2.2.1])), ((zz.2.2.1 0), .inl (cI, 256, .inl (zz.2.2.2.2.1 0))), ((zz.2.2.1 1), .inl (cI, 256, .inl (zz.2.2.2.2.1 1))), ((zz.2.2.1 2), .inl (cI, 256, .inl (zz.2.2.2.2.1 2))), ((zz.2.2.1 3), .inl (cZ, 256, .inl (zz.2.2.2.2.1 3))), ((zz.2.2.1 4), .inl (cJ, 256, .inr (.inl zz.2.2.2.2.2.2.1))), ((zz.2.2.1 5), .inl (cI, 256, .inl (zz.2.2.2.2.1 5))), ((zz.2.2.1 6), .inl (cI, 256, .inl (zz.2.2.2.2.1 6))), (zz.2.1, .inr (1, [.ref (zz.2.2.2.1 0), .ref (zz.2.2.2.1 1), .ref (zz.2.2.2.1 2), .ref (zz.2.2.2.1 3), .ref (zz.2.2.2.1 4), .ref (zz.2.2.2.1 5), .ref (zz.2.2.2.1 6), .int zz.2.2.2.2.2.2.2.2.2.2.2.2.2.2.2.2.2.2.1])), ((zz.2.2.2.1 0), .inl (cI, 256, .inl (zz.2.2.2.2.2.1 0))), ((zz.2.2.2.1 1), .inl (cI, 256, .inl (zz.2.2.2.2.2.1 1))), ((zz.2.2.2.1 2), .inl (cI, 256, .inl (zz.2.2.2.2.2.1 2))), ((zz.2.2.2.1 3), .inl (cZ, 256, .inl (zz.2.2.2.2.2.1 3))), ((zz.2.2.2.1 4), .inl (cJ, 256, .inr (.inl zz.2.2.2.2.2.2.2.1))), ((zz.2.2.2.1 5), .inl (cI, 256, .inl (zz.2.2.2.2.2.1 5))), ((zz.2.2.2.1 6), .inl (cI, 256, .inl (zz.2.2.2.2.2.1 6))), (n0, .inr (2, [.ref a0, .ref b0, .int (nI (D0 6)), .int (nI (D0 7)), .int (nI (D0 8)), .int (nI (D0 9)), .int (nI (D0 10)), .int (nI (D0 11)), .int (nI (D0 12)), .int (nI (D0 13)), .int (nI (D0 14))])), (a0, .inr (0, [.int (nI (D0 0)), .int (nI (D0 1)), .int (nI (D0 2))])), (b0, .inr (0, [.int (nI (D0 3)), .int (nI (D0 4)), .int (nI (D0 5))])), (w0, .inr (3, [.int (nI (V0 0)), .int (nI (V0 1)), .int (nI (V0 2)), .int (nI (V0 3)), .int (nI (V0 4)), .int (nI (V0 5)), .int (nI (V0 6)), .int (nI (V0 7))])), (k0, .inr (3, [.int (zz.2.2.2.2.2.2.2.2.2.2.1 0), .int (zz.2.2.2.2.2.2.2.2.2.2.1 1), .int (zz.2.2.2.2.2.2.2.2.2.2.1 2), .int (zz.2.2.2.2.2.2.2.2.2.2.1 3), .int (zz.2.2.2.2.2.2.2.2.2.2.1 4), .int (zz.2.2.2.2.2.2.2.2.2.2.1 5), .int (zz.2.2.2.2.2.2.2.2.2.2.1 6), .int (zz.2.2.2.2.2.2.2.2.2.2.1 7)])), (qr, .inl (cI, 15, .inl rU)), (qp, .inl (cI, 9, .inl (fun _ => 0))), (qe, .inl (cJ, 10, .inr (.inl zz.2.2.2.2.2.2.2.2.2.2.2.1)))]
abbrev xLL (b h0 qr qp qe n : Nat) : List (Nat × Value) := [(0, .ref b), (1, .ref h0), (2, .ref qr), (3, .ref qp), (4, .ref qe), (5, .int 1), (6, .int (nI n))]
