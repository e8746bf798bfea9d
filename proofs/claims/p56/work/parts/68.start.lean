set_option maxRecDepth 100000 in
set_option maxHeartbeats 4000000 in
theorem whole_start {p : Program} {e : Env} {s : State} {m : MethodId} {below : List Frame} {meth : Method} {c : Code} (l : Launch) (hflags : l.flags = flags0) {b L : Nat} {xs : Nat → Int32} (hL : L ≤ 260) (C0 : lw_At p s m meth c b L xs) : W p l e room_1 s m #[Value.ref b] below meth c s.heap [] 0 0 (lw_Z below #[Value.ref b] s) (entryFrame m ([Value.ref b] : List Value).toArray 5) := by
  obtain ⟨hx, hb, hr, hml, hown, hts, hX, hbl, hlocks, hgv⟩ := C0
  obtain ⟨D, ca, sk, sv, hK⟩ := st_all hX hbl hts hgv
  obtain ⟨z, ez⟩ : ∃ z : gZ, z = (s.heap.size, D, ca, (fun j => s.heap.size + j), 119, sk, sv, b, L, xs) := ⟨_, rfl⟩
  have had : ∀ j, gad z j = z.1 + j := fun j => by rw [ez]
  have hz0 : z.1 = s.heap.size := by rw [ez]
  have hgn : gn z = 119 := by rw [ez]
  have hgb : gsb z = b := by rw [ez]
  have hgl : gsl z = L := by rw [ez]
  have hKz : gK z s := by rw [ez]; exact hK 119
  clear ez hK hX hbl
  subst hgb
  have X : gX p m c cL_law 5 s #[.ref (gsb z)] RL z := ⟨hx, hb, hml, hown, fun w hw => hts w (lw_gT hw), hKz⟩
  have hS : va_S (gA z) s.heap s.heap [] := va_S.rf
  have hl := lv_entry ([.ref (gsb z)]) (n := 5) (Nat.le_of_ble_eq_true rfl)
  rw [lg_entry_eq]
  generalize (lg_sl ([.ref (gsb z)]) ++ List.replicate (5 - (lg_sl ([.ref (gsb z)])).length) Slot.unset).toArray = ls at hl ⊢
  have hl : lv_has ls 5 [(0, .ref (gsb z))] := hl
  have hV : gV z (va_up (cellOf z M0) 0 (.inr (6, [.null, .null, .null, .null, .null, .null, .null, .int 0]))) 0 s.heap := ⟨fun j hj => absurd hj (Nat.not_lt_zero j), by show s.heap.size = z.1 + 0; rw [hz0]; rfl, fun j => had j⟩
  refine r_new (T := TX6) (N := 8) (ci := 6) (fs := [.null, .null, .null, .null, .null, .null, .null, .int 0]) X hV hS tyX6 tyX6_ok rfl layX6 cl_L_18 in_X6 ii_X6 (va_up_self _ _ _) (fun j hj => dv_6 j hj) (Nat.le_of_ble_eq_true rfl) (Nat.le_of_ble_eq_true rfl) dL_law_0 (fun H hV hS => ?_)
  refine lv_dup hx hb dL_law_3 rfl ?_
  refine r_cI (av := []) (rest := [.ref (gad z 0)]) X hV hS (ct_X6_init l z (k := 0) k_0 (va_up_self _ _ _)) mi_X6_init mj_X6_init rfl ml_L_175 rfl ⟨rfl, rfl, Nat.le_of_ble_eq_true rfl, Nat.le_of_ble_eq_true rfl⟩ ⟨Nat.le_of_ble_eq_true rfl, Nat.le_of_ble_eq_true rfl⟩ hl.1 (Nat.le_of_ble_eq_true rfl) rfl dL_law_4 (fun H locs hV hS => ?_)
  refine lv_astore_n (lv' := [(1, .ref (gad z 0)), (0, .ref (gsb z))]) hx hb dL_law_7 rfl hl (by decide) rfl (fun ls hl => ?_)
  have hG : gW z M0 H := gV_W (by
    rw [hgn]
    exact gV_ext hV (fun j hj => by
      unfold mkB
      rw [if_neg (Nat.not_lt_zero j)]))
  exact law_run (by rw [hgl]; exact hL) hz0 hgn hr hlocks X LI_0 hG hS hl
