/-! A static call of a method with handlers. -/
section KLX2
variable {p : Program} {l : Launch} {e : Env} {R : Room} {s : State} {m : MethodId} {args : Array Value} {below : List Frame} {meth : Method} {c : Code} {H : Heap} {locs : List Loc} {cells slots : Nat} {Q : State → Prop}
variable {cc : ByteArray} {pc : Nat} {ls : Array Slot} {rest st0 As : List Value} {G : kl_G} {B : Nat} {w : kl_M} {H0 : Heap} {i : Nat}
variable {y : MethodName} {bytes : ByteArray} {maxL nL mc ms n index : Nat} {ret : Option FieldType} {ws : List Cond} {rm : Room} {Ts : List Cond} {own C : String} {hh : List (Nat × Nat × Nat × Nat)}
variable {px : String → kl_M → Prop}
theorem klx_cSXi {post : Int32 → kl_M → Prop} (S : CallFix p m c cc nL s args Ts own) (hM : vx_Met l y ws rm (kl_Px G B w As) (kl_Qi G B post) (kl_X G B px) mc ms (kl_fr B)) (cw : vx_CSW R s args own index y bytes maxL ret hh ws rm mc ms n) (hK : kl_K G s) (hZ : kl_Z B s s.heap) (hP : kl_S G B w s.heap H locs)
    (hn : As.length = n) (hsize : ls.size = nL) (hst : st0 = As.reverse ++ rest) (hW : (rest.map fun v => v.category).sum ≤ 8) (hdg : decode cc pc = .ok (.invokestatic index, 3)) (hf : cells + mc ≤ R.cells ∧ slots + ms ≤ R.slots)
    (kx : ∀ (E : String) (ce : Cell) (q9 : Addr) (w1 : kl_M) (H1 : Heap) (locs1 : List Loc), px E w1 → kl_S G B w1 s.heap H1 locs1 → H1[q9]? = some ce → ce.vm = .none → s.vm.findClass E = some ce.cls → vx_W p l e R s m args below meth c H1 locs1 (cells + mc) (slots + ms) Q (F0 m pc ls rest) q9)
    (kk : ∀ (r : Int32) (w1 : kl_M) (H1 : Heap) (locs1 : List Loc), post r w1 → kl_S G B w1 s.heap H1 locs1 → W p l e R s m args below meth c H1 locs1 (cells + mc) (slots + ms) Q (F0 m (pc + 3) ls (.int r :: rest))) : W p l e R s m args below meth c H locs cells slots Q (F0 m pc ls st0) :=
  kl_endxi hP (vx_runSX (g := F0 m pc ls st0) S hM cw (kl_preSx hK hZ hP) rfl hn hsize hst (lv_room hW) hdg hf) kx kk
end KLX2
