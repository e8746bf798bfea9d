/-! ===== the reference's image: where its copy is known already, and where it is made ===== -/
theorem w_size {p : Program} {l : Launch} {e : Env} {R : Room} {s : State} {m : MethodId} {args : Array Value} {below : List Frame} {meth : Method} {c : Code} {H : Heap} {locs : List Loc} {cells slots : Nat} {Q : State → Prop} {g : JFrame} (kk : H.size ≤ s.heap.size + cells → W p l e R s m args below meth c H locs cells slots Q g) : W p l e R s m args below meth c H locs cells slots Q g := by
  intro T hT X
  have h := X.heapSize
  rw [hT] at h
  exact kk h T hT X
theorem kk_59 {a : Nat} (h : kd a = 7) (h2 : a = 119) : kd (a + 59) = 7 := by
  subst h2
  decide +kernel
set_option maxRecDepth 100000 in
set_option maxHeartbeats 4000000 in
/-- the copy is there -/
theorem ct_X7_imageA (l : Launch) (z : gZ) {N : Nat} {M M3 : Mem} {a : Nat} (k_a : kd a = 7) (n_a : a + 59 ≤ gn z) (k_k : kd (a + 59) = 7) (q1 : ¬ M.1 a 26 = 0) (n_kk : a + 59 + 59 ≤ gn z) (h : fX7_takeFrom N M (a + 59) a = some M3) : CtI l z yX7_image cX7_image 1 (some .int) { frames := 2, cells := 0, slots := 0, locals := 44 } [.ref (gad z a)] M 1 M3 := by
  refine Ct_of rfl (Nat.le_of_ble_eq_true rfl) ?_
  intro p e s m below meth c ls X hr hlk hG hS hl
  have X : gX p m c _ _ s _ RX7 z := X
  have hl : lv_has ls 1 [(0, .ref (gad z a))] := hl
  have hx := X.1
  have hb := X.2.1
  refine lv_aload_n hx hb dX7_image_0 rfl (lv_at hl 0 rfl) ?_
  refine gf_X7_26 X hG (nx_0 n_a) k_a fl_X7_338 dX7_image_1 ?_
  rw [if_neg q1]
  refine g_rf1 ?_
  refine lv_ifnonnull (tgt := 18) hx hb dX7_image_4 (by decide) ?_
  refine lv_aload_n hx hb dX7_image_18 rfl (lv_at hl 0 rfl) ?_
  refine gf_X7_26 X hG (nx_0 n_a) k_a fl_X7_338 dX7_image_19 ?_
  rw [if_neg q1]
  refine g_rf1 ?_
  refine lv_aload_n hx hb dX7_image_22 rfl (lv_at hl 0 rfl) ?_
  refine g_cVV (a := a + 59) (ci := 7) (T := TX7) (N := 37) (av := [.ref (gad z a)]) (rest := []) X hG hS (ct_X7_takeFrom l z k_k n_kk k_a n_a h) mt_X7_takeFrom ml_X7_343 rfl ⟨rfl, rfl, Nat.le_of_ble_eq_true rfl, Nat.le_of_ble_eq_true rfl⟩ ⟨Nat.le_refl 0, Nat.le_refl 0⟩ (nx_0 n_kk) k_k (by decide) rfl hl.1 (Nat.le_of_ble_eq_true rfl) rfl dX7_image_23 (fun H locs hG hS => ?_)
  refine lv_iconst (v := 1) hx hb dX7_image_26 (by decide) ?_
  exact g_iret X hr hlk hG hS dX7_image_27
/-- the world z, with n cells -/
def zN (z : gZ) (n : Nat) : gZ := (z.1, z.2.1, z.2.2.1, z.2.2.2.1, n, z.2.2.2.2.2.1, z.2.2.2.2.2.2)
/-- M below k, a fresh memory from k on -/
def mU (M : Mem) (k : Nat) : Mem := (fun j i => if j < k then M.1 j i else M0.1 j i, fun j i => if j < k then M.2 j i else M0.2 j i)
theorem mU_lo {M : Mem} {k j : Nat} (h : j < k) : (mU M k).1 j = M.1 j := by
  funext i
  show (if j < k then M.1 j i else M0.1 j i) = M.1 j i
  rw [if_pos h]
theorem mU_lo2 {M : Mem} {k j : Nat} (h : j < k) : (mU M k).2 j = M.2 j := by
  funext i
  show (if j < k then M.2 j i else M0.2 j i) = M.2 j i
  rw [if_pos h]
theorem mU_hi {M : Mem} {k j : Nat} (h : ¬ j < k) : (mU M k).1 j = M0.1 j := by
  funext i
  show (if j < k then M.1 j i else M0.1 j i) = M0.1 j i
  rw [if_neg h]
theorem mU_hi2 {M : Mem} {k j : Nat} (h : ¬ j < k) : (mU M k).2 j = M0.2 j := by
  funext i
  show (if j < k then M.2 j i else M0.2 j i) = M0.2 j i
  rw [if_neg h]
theorem mkB_mU {z : gZ} {M : Mem} {k : Nat} {ov : Nat → va_E} (h : ∀ j, j < k → ov j = cellOf z M j) (j : Nat) : mkB z ov k j = cellOf z (mU M k) j := by
  unfold mkB
  by_cases q : j < k
  · rw [if_pos q, h j q]
    exact (cell_congr z (mU_lo q) (mU_lo2 q)).symm
  · rw [if_neg q]
    exact (cell_congr z (mU_hi q) (mU_hi2 q)).symm
theorem cell_zN (z : gZ) (n : Nat) (M : Mem) (j : Nat) : cellOf (zN z n) M j = cellOf z M j := rfl
set_option maxRecDepth 100000 in
set_option maxHeartbeats 4000000 in
/-- the copy is made -/
theorem ct_X7_imageB (l : Launch) (z : gZ) {N : Nat} {M M3 : Mem} {a : Nat} (had : ∀ j, gad z j = z.1 + j) (k_a : kd a = 7) (n_a : a + 59 = gn z) (k_k : kd (a + 59) = 7) (q1 : M.1 a 26 = 0) (h : fX7_takeFrom N (sI (mU M (a + 59)) a 26 1) (a + 59) a = some M3) :
    Met l yX7_image (.code yX7_image cX7_image 1 (some .int) :: gT) { frames := 2, cells := 59, slots := 5781, locals := 44 } (va_Pc [.ref (gad z a)] (fun s => gW z M s.heap ∧ s.heap.size = z.1 + (a + 59) ∧ gK z s)) (va_Qi (fun r' (_ : Unit) => r' = 1) (fun _ t => gW (zN z (a + 59 + 59)) M3 t.heap) (gA z)) 59 5781 (gA z) := by
  refine Met.ofW (cc := cX7_image) (maxL := 1) (ret := some .int) rfl rfl ?_
  intro p e s m args below meth c s₁ B hml hv
  obtain ⟨rfl, hG, hsz, hK⟩ := hv
  have hts := atoms_spec (ws := .code yX7_image cX7_image 1 (some .int) :: gT) B.pre
  have hl := lv_entry [.ref (gad z a)] (n := 1) (Nat.le_of_ble_eq_true rfl)
  rw [lg_entry_eq]
  generalize (lg_sl ([.ref (gad z a)]) ++ List.replicate (1 - (lg_sl ([.ref (gad z a)])).length) Slot.unset).toArray = ls at hl ⊢
  have hl : lv_has ls 1 [(0, .ref (gad z a))] := hl
  have X : gX p m c cX7_image 1 s [.ref (gad z a)].toArray RX7 z := ⟨B.exec, B.bytes, hml, findClass_of_methodNamed B.named, fun w hw => hts w (List.mem_cons_of_mem _ hw), hK⟩
  have X' : gX p m c cX7_image 1 s [.ref (gad z a)].toArray RX7 (zN z (a + 59 + 59)) := ⟨B.exec, B.bytes, hml, findClass_of_methodNamed B.named, fun w hw => hts w (List.mem_cons_of_mem _ hw), hK⟩
  have hr := B.returns
  have hlk := B.notSynchronized
  have hx := X.1
  have hb := X.2.1
  have n_a' : a + 59 ≤ gn z := by omega
  have hn' : gn (zN z (a + 59 + 59)) = a + 59 + 59 := rfl
  have hS : va_S (gA z) s.heap s.heap [] := va_S.rf
  refine lv_aload_n hx hb dX7_image_0 rfl (lv_at hl 0 rfl) ?_
  refine gf_X7_26 X hG (nx_0 n_a') k_a fl_X7_338 dX7_image_1 ?_
  rw [if_pos q1]
  refine g_rf0 ?_
  refine lv_ifnonnullN hx hb dX7_image_4 ?_
  refine lv_aload_n hx hb dX7_image_7 rfl (lv_at hl 0 rfl) ?_
  have hV : gV (zN z (a + 59 + 59)) (va_up (cellOf (zN z (a + 59 + 59)) M) (a + 59) (.inr (7, [.null, .null, .null, .null, .null, .null, .null, .null, .int 0, .null, .int 0, .null, .null, .null, .null, .null, .null, .null, .null, .null, .null, .int 0, .int 0, .int 0, .int 0, .int 0, .null, .int 0, .int 0, .int 0, .long 0, .int 0, .int 0, .null, .int 0, .int 0, .int 0]))) (a + 59) s.heap := by
    refine ⟨fun j hj => ?_, hsz, fun j => had j⟩
    rw [va_up_ne _ _ (by omega), cell_zN]
    exact gW_at hG (by omega)
  have hl : lv_has ls 1 [(0, .ref (gad (zN z (a + 59 + 59)) a))] := hl
  have hS : va_S (gA (zN z (a + 59 + 59))) s.heap s.heap [] := hS
  refine r_new (T := TX7) (N := 37) (ci := 7) (fs := [.null, .null, .null, .null, .null, .null, .null, .null, .int 0, .null, .int 0, .null, .null, .null, .null, .null, .null, .null, .null, .null, .null, .int 0, .int 0, .int 0, .int 0, .int 0, .null, .int 0, .int 0, .int 0, .long 0, .int 0, .int 0, .null, .int 0, .int 0, .int 0]) X' hV hS tyX7 tyX7_ok rfl layX7 cl_X7_8 in_X7 ii_X7 (va_up_self _ _ _) (fun j hj => dv_7 j hj) (Nat.le_of_ble_eq_true rfl) (Nat.le_of_ble_eq_true rfl) dX7_image_8 (fun H hV hS => ?_)
  refine lv_dup hx hb dX7_image_11 rfl ?_
  refine r_cI (av := []) (rest := [.ref (gad (zN z (a + 59 + 59)) (a + 59)), .ref (gad (zN z (a + 59 + 59)) a)]) X' hV hS (ct_X7_init l (zN z (a + 59 + 59)) (k := a + 59) k_k (va_up_self _ _ _)) mi_X7_init mj_X7_init rfl ml_X7_342 rfl ⟨rfl, rfl, Nat.le_of_ble_eq_true rfl, Nat.le_of_ble_eq_true rfl⟩ ⟨Nat.le_of_ble_eq_true rfl, Nat.le_of_ble_eq_true rfl⟩ hl.1 (Nat.le_of_ble_eq_true rfl) rfl dX7_image_12 (fun H locs hV hS => ?_)
  have hV : gV (zN z (a + 59 + 59)) (cellOf (zN z (a + 59 + 59)) (mU M (a + 59))) (gn (zN z (a + 59 + 59))) H := by
    rw [hn']
    exact gV_ext hV (fun j _ => (mkB_mU (fun j hj => va_up_ne _ _ (by omega)) j).symm)
  have hG : gW (zN z (a + 59 + 59)) (mU M (a + 59)) H := gV_W hV
  have na' : a < gn (zN z (a + 59 + 59)) := by omega
  have e26 : (mU M (a + 59)).1 a 26 = 0 := by rw [mU_lo (by omega)]; exact q1
  refine g_put (M' := sI (mU M (a + 59)) a 26 1) (ci := 7) (N := 37) (T := TX7) (ty := .object RX7) (fs := flds (gad (zN z (a + 59 + 59))) (mU M (a + 59)) 7 a) X' hG hS tyX7 tyX7_ok nmX7 na' (cell_O (zN z (a + 59 + 59)) _ k_a (by decide)) rfl layX7 26 (by decide) rfl fl_X7_338 rfl rfl rfl rfl (Nat.le_of_ble_eq_true rfl) ((cell_O (zN z (a + 59 + 59)) _ k_a (by decide)).trans (by simp [flds, sI, va_rf] <;> rfl)) (fun b hb => cell_congr (zN z (a + 59 + 59)) (sI_1 hb) (sI_2 hb)) dX7_image_15 (fun H locs hG hS => ?_)
  have q2 : ¬ (sI (mU M (a + 59)) a 26 1).1 a 26 = 0 := by
    show ¬ (if a = a ∧ 26 = 26 then (1 : Int32) else _) = 0
    rw [if_pos ⟨rfl, rfl⟩]; decide
  refine lv_aload_n hx hb dX7_image_18 rfl (lv_at hl 0 rfl) ?_
  refine gf_X7_26 X' hG na' k_a fl_X7_338 dX7_image_19 ?_
  rw [if_neg q2]
  refine g_rf1 ?_
  refine lv_aload_n hx hb dX7_image_22 rfl (lv_at hl 0 rfl) ?_
  have n1 : a + 59 ≤ gn (zN z (a + 59 + 59)) := by omega
  have n2 : a + 59 + 59 ≤ gn (zN z (a + 59 + 59)) := by omega
  refine g_cVV (a := a + 59) (ci := 7) (T := TX7) (N := 37) (av := [.ref (gad (zN z (a + 59 + 59)) a)]) (rest := []) X' hG hS (ct_X7_takeFrom l (zN z (a + 59 + 59)) k_k n2 k_a n1 h) mt_X7_takeFrom ml_X7_343 rfl ⟨rfl, rfl, Nat.le_of_ble_eq_true rfl, Nat.le_of_ble_eq_true rfl⟩ ⟨Nat.le_of_ble_eq_true rfl, Nat.le_of_ble_eq_true rfl⟩ (nx_0 n2) k_k (by decide) rfl hl.1 (Nat.le_of_ble_eq_true rfl) rfl dX7_image_23 (fun H locs hG hS => ?_)
  refine lv_iconst (v := 1) hx hb dX7_image_26 (by decide) ?_
  exact W.iret (v := 1) hx hb hr (fun t ht _ => ⟨⟨1, (), rfl, rfl, show gW _ M3 t.heap by rw [ht]; exact hG⟩, hS.F ht⟩) hS.2.2 dX7_image_27
section IMGCALL
variable {p : Program} {l : Launch} {e : Env} {R : Room} {s : State} {m : MethodId} {args : Array Value} {below : List Frame} {meth : Method} {c : Code} {H : Heap} {locs : List Loc} {cells slots : Nat} {Q : State → Prop}
variable {cc : ByteArray} {nL pc : Nat} {ls : Array Slot} {rest : List Value} {own : String} {z : gZ} {M : Mem}
/-- the call that makes the copy -/
theorem g_imgB {N a index : Nat} {M3 : Mem} (X : gX p m c cc nL s args own z) (hG : gW z M H) (hS : va_S (gA z) s.heap H locs) (hsz : H.size = z.1 + (a + 59)) (had : ∀ j, gad z j = z.1 + j) (k_a : kd a = 7) (n_a : a + 59 = gn z) (k_k : kd (a + 59) = 7) (q1 : M.1 a 26 = 0) (h : fX7_takeFrom N (sI (mU M (a + 59)) a 26 1) (a + 59) a = some M3) (hlk : gML own index yX7_image) (hrm : 2 + 1 ≤ R.frames ∧ 8 + (1 + 11) + 44 ≤ R.locals) (hcs : cells + 59 ≤ R.cells ∧ slots + 5781 ≤ R.slots) (hl : ls.size = nL) (hro : (rest.map fun v => v.category).sum ≤ 8) (hdg : decode cc pc = .ok (.invokevirtual index, 3))
    (kk : ∀ (H1 : Heap) (locs1 : List Loc), gW (zN z (a + 59 + 59)) M3 H1 → va_S (gA z) s.heap H1 locs1 → W p l e R s m args below meth c H1 locs1 (cells + 59) (slots + 5781) Q (F0 m (pc + 3) ls (.int 1 :: rest))) : W p l e R s m args below meth c H locs cells slots Q (F0 m pc ls (.ref (gad z a) :: rest)) := by
  obtain ⟨⟨hcode, hini, hd1, hd2, hd3⟩, him, hse⟩ := mt_X7_image
  have hlen : ∀ sig, parseMethodDescriptor yX7_image.desc = some sig → 0 = sig.parameters.length := fun sig h => by
    rw [h] at hd3; exact (Option.some.inj hd3).symm
  have hG0 : GoodIn gT (.code yX7_image cX7_image 1 (some .int) :: gT) := fun w hw => by
    rcases List.mem_cons.mp hw with rfl | h
    · exact ⟨hcode, gT_good _ hcode⟩
    · exact ⟨h, gT_good _ h⟩
  have hrec : ∃ cell : Cell, H[gad z a]? = some cell ∧ cell.vm.isStatics = false ∧ s.vm.findClass yX7_image.cls = some cell.cls := va_recv X.2.2.2.2.2.1 hG.1 (ci := 7) (q := (RX7, TX7, 37)) rfl (wsF_at (show a < gn z by omega) (cell_O z M k_a (by decide)))
  obtain ⟨hx, hb, hml, hown, hts, hK⟩ := X
  have hM := ct_X7_imageB l z had k_a n_a k_k q1 h
  have hp : PreV s H yX7_image.cls (gad z a) (va_Pc [.ref (gad z a)] (fun s => gW z M s.heap ∧ s.heap.size = z.1 + (a + 59) ∧ gK z s)) [] := ⟨fun a U g mk q => ⟨q.1, q.2.1, q.2.2.1, gK_vm (u := U) (U := U.calling g mk a) rfl rfl q.2.2.2⟩, hrec, fun U hU hW => ⟨rfl, by rw [hU]; exact hG, by rw [hU]; exact hsz, gK_call hS hU hW hK⟩⟩
  have run : va_Run p l e R s m args below meth c H locs cells slots 59 5781 (F0 m pc ls (.ref (gad z a) :: rest)) rest (va_Qi (fun r' (_ : Unit) => r' = 1) (fun _ t => gW (zN z (a + 59 + 59)) M3 t.heap) (gA z) (Value.ref (gad z a) :: []).toArray) (gA z) := by
    rcases hlk with h | ⟨host, h⟩
    · exact va_runV (C := yX7_image.cls) (n := 0) ⟨hx, hb, hml, hown, hts⟩ hM ⟨⟨rfl, rfl, hrm.1, hrm.2, pay_in hts hG0, List.mem_cons_self, hts _ hcode, hts _ hini, ⟨hd1, hd2⟩, hlen, hts _ h⟩, hts _ him, hts _ hse⟩ hp rfl rfl hl rfl (lv_room hro) hdg hcs
    · exact va_runVN (C := yX7_image.cls) (n := 0) (host := host) ⟨hx, hb, hml, hown, hts⟩ hM ⟨⟨⟨rfl, rfl, hrm.1, hrm.2, pay_in hts hG0, List.mem_cons_self⟩, hts _ hcode, hts _ hini, ⟨hd1, hd2⟩, hlen, va_Nw.use rfl (hK.2.1 _ h)⟩, hts _ him, hts _ hse⟩ hp rfl rfl hl rfl (lv_room hro) hdg hcs
  exact va_calli run hS (fun q _ h => h) (fun q h => h) (fun r' _ t H1 locs1 ht _ hp hB _ _ hS1 => by
    have hp : r' = 1 := hp
    subst hp
    exact kk H1 locs1 (by rw [← ht]; exact hB) hS1)
end IMGCALL
/-- the heap is just as large as its world -/
theorem w_size_eq {z : gZ} {M : Mem} {H : Heap} {s : State} {cells k : Nat} (hG : gW z M H) (had : ∀ j, gad z j = z.1 + j) (hz : z.1 = s.heap.size) (hn : gn z = k + 1) (hc : cells = k + 1) (h : H.size ≤ s.heap.size + cells) : H.size = z.1 + (k + 1) := by
  have h1 := (gW_at hG (j := k) (by omega)).lt
  have h1 : gad z k < H.size := h1
  rw [had] at h1
  omega
