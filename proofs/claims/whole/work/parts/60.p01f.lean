theorem Fr.at {V : List Nat} {σ σ' : St} (f : Fr V σ σ') {l : List Nat} (hv : l.all (fun a => !V.contains a) = true) : ∀ a, a ∈ l → σ'.1 a = σ.1 a ∧ σ'.2 a = σ.2 a := fun a ha => f a (by
  have h := List.all_eq_true.mp hv a ha
  cases e : V.contains a with
  | false => rfl
  | true => rw [e] at h; cases h)
theorem RTape.fr {σ τ σ' τ' : St} {V W : List Nat}  (h : RTape σ τ) (f : Fr V σ σ') (g : Fr W τ τ') (hv : ([4801, 20] : List Nat).all (fun a => !V.contains a) = true) (hw : ([1001, 1] : List Nat).all (fun a => !W.contains a) = true) : RTape σ' τ' := by
  have e := f.at hv
  have e2 := g.at hw
  have a4801 : σ'.1 4801 = σ.1 4801 := (e 4801 (by decide)).1
  have a20 : σ'.1 20 = σ.1 20 := (e 20 (by decide)).1
  have c1001 : τ'.1 1001 = τ.1 1001 := (e2 1001 (by decide)).1
  have c1 : τ'.1 1 = τ.1 1 := (e2 1 (by decide)).1
  unfold RTape at h ⊢
  rw [a4801, a20, c1001, c1]
  exact h
theorem RFault.fr {σ τ σ' τ' : St} {V W : List Nat}  (h : RFault σ τ) (f : Fr V σ σ') (g : Fr W τ τ') (hv : ([4811, 4812] : List Nat).all (fun a => !V.contains a) = true) (hw : ([1008, 1009] : List Nat).all (fun a => !W.contains a) = true) : RFault σ' τ' := by
  have e := f.at hv
  have e2 := g.at hw
  have a4811 : σ'.1 4811 = σ.1 4811 := (e 4811 (by decide)).1
  have a4812 : σ'.1 4812 = σ.1 4812 := (e 4812 (by decide)).1
  have c1008 : τ'.1 1008 = τ.1 1008 := (e2 1008 (by decide)).1
  have c1009 : τ'.1 1009 = τ.1 1009 := (e2 1009 (by decide)).1
  unfold RFault at h ⊢
  rw [a4811, a4812, c1008, c1009]
  exact h
theorem RList.fr {σ τ σ' τ' : St} {V W : List Nat} {L : Lv} (h : RList σ τ L) (f : Fr V σ σ') (g : Fr W τ τ') (hv : ([1200, 4, 5, 6, 7, 8, 10, 3, 9] : List Nat).all (fun a => !V.contains a) = true) (hw : ([3, 5, 6, 7, 8, 9, 2, 4, 10] : List Nat).all (fun a => !W.contains a) = true) : RList σ' τ' L := by
  have e := f.at hv
  have e2 := g.at hw
  have a1200 : σ'.1 1200 = σ.1 1200 := (e 1200 (by decide)).1
  have a4 : σ'.1 4 = σ.1 4 := (e 4 (by decide)).1
  have a5 : σ'.1 5 = σ.1 5 := (e 5 (by decide)).1
  have a6 : σ'.1 6 = σ.1 6 := (e 6 (by decide)).1
  have a7 : σ'.1 7 = σ.1 7 := (e 7 (by decide)).1
  have a8 : σ'.1 8 = σ.1 8 := (e 8 (by decide)).1
  have a10 : σ'.1 10 = σ.1 10 := (e 10 (by decide)).1
  have b3 : σ'.2 3 = σ.2 3 := (e 3 (by decide)).2
  have b9 : σ'.2 9 = σ.2 9 := (e 9 (by decide)).2
  have c3 : τ'.1 3 = τ.1 3 := (e2 3 (by decide)).1
  have c5 : τ'.1 5 = τ.1 5 := (e2 5 (by decide)).1
  have c6 : τ'.1 6 = τ.1 6 := (e2 6 (by decide)).1
  have c7 : τ'.1 7 = τ.1 7 := (e2 7 (by decide)).1
  have c8 : τ'.1 8 = τ.1 8 := (e2 8 (by decide)).1
  have c9 : τ'.1 9 = τ.1 9 := (e2 9 (by decide)).1
  have c2 : τ'.1 2 = τ.1 2 := (e2 2 (by decide)).1
  have d4 : τ'.2 4 = τ.2 4 := (e2 4 (by decide)).2
  have d10 : τ'.2 10 = τ.2 10 := (e2 10 (by decide)).2
  unfold RList LX LM at h ⊢
  simp only [Nat.reduceMul, Nat.reduceAdd, Nat.reduceSub] at h ⊢
  rw [a1200, a4, a5, a6, a7, a8, a10, b3, b9, c3, c5, c6, c7, c8, c9, c2, d4, d10]
  exact h
theorem RTerms.fr {σ τ σ' τ' : St} {V W : List Nat} {nt : Nat} {T : Nat → Tv} (h : RTerms σ τ nt T) (f : Fr V σ σ') (g : Fr W τ τ') (hv : ([7600, 35, 36, 34, 37] : List Nat).all (fun a => !V.contains a) = true) (hw : ([1049, 31, 32, 30, 33] : List Nat).all (fun a => !W.contains a) = true) : RTerms σ' τ' nt T := by
  have e := f.at hv
  have e2 := g.at hw
  have a7600 : σ'.1 7600 = σ.1 7600 := (e 7600 (by decide)).1
  have a35 : σ'.1 35 = σ.1 35 := (e 35 (by decide)).1
  have a36 : σ'.1 36 = σ.1 36 := (e 36 (by decide)).1
  have b34 : σ'.2 34 = σ.2 34 := (e 34 (by decide)).2
  have b37 : σ'.2 37 = σ.2 37 := (e 37 (by decide)).2
  have c1049 : τ'.1 1049 = τ.1 1049 := (e2 1049 (by decide)).1
  have c31 : τ'.1 31 = τ.1 31 := (e2 31 (by decide)).1
  have c32 : τ'.1 32 = τ.1 32 := (e2 32 (by decide)).1
  have d30 : τ'.2 30 = τ.2 30 := (e2 30 (by decide)).2
  have d33 : τ'.2 33 = τ.2 33 := (e2 33 (by decide)).2
  unfold RTerms TX TM at h ⊢
  rw [a7600, a35, a36, b34, b37, c1049, c31, c32, d30, d33]
  exact h
theorem RBlocks.fr {σ τ σ' τ' : St} {V W : List Nat} {ns : Nat} (h : RBlocks σ τ ns) (f : Fr V σ σ') (g : Fr W τ τ') (hv : ([5602, 5605, 24, 25, 26, 27, 28, 29, 30] : List Nat).all (fun a => !V.contains a) = true) (hw : ([1035, 1036, 20, 21, 22, 23, 24, 25, 26, 27, 28] : List Nat).all (fun a => !W.contains a) = true) : RBlocks σ' τ' ns := by
  have e := f.at hv
  have e2 := g.at hw
  have a5602 : σ'.1 5602 = σ.1 5602 := (e 5602 (by decide)).1
  have a5605 : σ'.1 5605 = σ.1 5605 := (e 5605 (by decide)).1
  have a24 : σ'.1 24 = σ.1 24 := (e 24 (by decide)).1
  have a25 : σ'.1 25 = σ.1 25 := (e 25 (by decide)).1
  have a26 : σ'.1 26 = σ.1 26 := (e 26 (by decide)).1
  have a27 : σ'.1 27 = σ.1 27 := (e 27 (by decide)).1
  have a28 : σ'.1 28 = σ.1 28 := (e 28 (by decide)).1
  have a29 : σ'.1 29 = σ.1 29 := (e 29 (by decide)).1
  have a30 : σ'.1 30 = σ.1 30 := (e 30 (by decide)).1
  have c1035 : τ'.1 1035 = τ.1 1035 := (e2 1035 (by decide)).1
  have c1036 : τ'.1 1036 = τ.1 1036 := (e2 1036 (by decide)).1
  have c20 : τ'.1 20 = τ.1 20 := (e2 20 (by decide)).1
  have c21 : τ'.1 21 = τ.1 21 := (e2 21 (by decide)).1
  have c22 : τ'.1 22 = τ.1 22 := (e2 22 (by decide)).1
  have c23 : τ'.1 23 = τ.1 23 := (e2 23 (by decide)).1
  have c24 : τ'.1 24 = τ.1 24 := (e2 24 (by decide)).1
  have c25 : τ'.1 25 = τ.1 25 := (e2 25 (by decide)).1
  have c26 : τ'.1 26 = τ.1 26 := (e2 26 (by decide)).1
  have c27 : τ'.1 27 = τ.1 27 := (e2 27 (by decide)).1
  have c28 : τ'.1 28 = τ.1 28 := (e2 28 (by decide)).1
  unfold RBlocks at h ⊢
  rw [a5602, a5605, a24, a25, a26, a27, a28, a29, a30, c1035, c1036, c20, c21, c22, c23, c24, c25, c26, c27, c28]
  exact h
theorem RFace.fr {σ τ σ' τ' : St} {V W : List Nat}  (h : RFace σ τ) (f : Fr V σ σ') (g : Fr W τ τ') (hv : ([1012] : List Nat).all (fun a => !V.contains a) = true) (hw : ([1048] : List Nat).all (fun a => !W.contains a) = true) : RFace σ' τ' := by
  have e := f.at hv
  have e2 := g.at hw
  have a1012 : σ'.1 1012 = σ.1 1012 := (e 1012 (by decide)).1
  have c1048 : τ'.1 1048 = τ.1 1048 := (e2 1048 (by decide)).1
  unfold RFace at h ⊢
  rw [a1012, c1048]
  exact h
theorem RRow.fr {σ τ σ' τ' : St} {V W : List Nat} {ns : Nat} (h : RRow σ τ ns) (f : Fr V σ σ') (g : Fr W τ τ') (hv : ([12404, 58] : List Nat).all (fun a => !V.contains a) = true) (hw : ([1069, 44] : List Nat).all (fun a => !W.contains a) = true) : RRow σ' τ' ns := by
  have e := f.at hv
  have e2 := g.at hw
  have a12404 : σ'.1 12404 = σ.1 12404 := (e 12404 (by decide)).1
  have a58 : σ'.1 58 = σ.1 58 := (e 58 (by decide)).1
  have c1069 : τ'.1 1069 = τ.1 1069 := (e2 1069 (by decide)).1
  have c44 : τ'.1 44 = τ.1 44 := (e2 44 (by decide)).1
  unfold RRow at h ⊢
  rw [a12404, a58, c1069, c44]
  exact h
theorem RRead.fr {σ τ σ' τ' : St} {V W : List Nat}  (h : RRead σ τ) (f : Fr V σ σ') (g : Fr W τ τ') (hv : ([12411, 65, 66] : List Nat).all (fun a => !V.contains a) = true) (hw : ([1074, 48, 49] : List Nat).all (fun a => !W.contains a) = true) : RRead σ' τ' := by
  have e := f.at hv
  have e2 := g.at hw
  have a12411 : σ'.1 12411 = σ.1 12411 := (e 12411 (by decide)).1
  have a65 : σ'.1 65 = σ.1 65 := (e 65 (by decide)).1
  have a66 : σ'.1 66 = σ.1 66 := (e 66 (by decide)).1
  have c1074 : τ'.1 1074 = τ.1 1074 := (e2 1074 (by decide)).1
  have c48 : τ'.1 48 = τ.1 48 := (e2 48 (by decide)).1
  have c49 : τ'.1 49 = τ.1 49 := (e2 49 (by decide)).1
  unfold RRead at h ⊢
  rw [a12411, a65, a66, c1074, c48, c49]
  exact h
theorem RGroup.fr {σ τ σ' τ' : St} {V W : List Nat}  (h : RGroup σ τ) (f : Fr V σ σ') (g : Fr W τ τ') (hv : ([9004, 44, 45] : List Nat).all (fun a => !V.contains a) = true) (hw : ([1082, 55, 56] : List Nat).all (fun a => !W.contains a) = true) : RGroup σ' τ' := by
  have e := f.at hv
  have e2 := g.at hw
  have a9004 : σ'.1 9004 = σ.1 9004 := (e 9004 (by decide)).1
  have a44 : σ'.1 44 = σ.1 44 := (e 44 (by decide)).1
  have a45 : σ'.1 45 = σ.1 45 := (e 45 (by decide)).1
  have c1082 : τ'.1 1082 = τ.1 1082 := (e2 1082 (by decide)).1
  have c55 : τ'.1 55 = τ.1 55 := (e2 55 (by decide)).1
  have c56 : τ'.1 56 = τ.1 56 := (e2 56 (by decide)).1
  unfold RGroup at h ⊢
  rw [a9004, a44, a45, c1082, c55, c56]
  exact h
theorem RPass.fr {σ τ σ' τ' : St} {V W : List Nat} {nt : Nat} (h : RPass σ τ nt) (f : Fr V σ σ') (g : Fr W τ τ') (hv : ([14402, 68] : List Nat).all (fun a => !V.contains a) = true) (hw : ([1085, 57] : List Nat).all (fun a => !W.contains a) = true) : RPass σ' τ' nt := by
  have e := f.at hv
  have e2 := g.at hw
  have a14402 : σ'.1 14402 = σ.1 14402 := (e 14402 (by decide)).1
  have a68 : σ'.1 68 = σ.1 68 := (e 68 (by decide)).1
  have c1085 : τ'.1 1085 = τ.1 1085 := (e2 1085 (by decide)).1
  have c57 : τ'.1 57 = τ.1 57 := (e2 57 (by decide)).1
  unfold RPass at h ⊢
  rw [a14402, a68, c1085, c57]
  exact h
theorem RFill.fr {σ τ σ' τ' : St} {V W : List Nat}  (h : RFill σ τ) (f : Fr V σ σ') (g : Fr W τ τ') (hv : ([14405, 70, 71, 72] : List Nat).all (fun a => !V.contains a) = true) (hw : ([1086, 62, 63, 64] : List Nat).all (fun a => !W.contains a) = true) : RFill σ' τ' := by
  have e := f.at hv
  have e2 := g.at hw
  have a14405 : σ'.1 14405 = σ.1 14405 := (e 14405 (by decide)).1
  have a70 : σ'.1 70 = σ.1 70 := (e 70 (by decide)).1
  have a71 : σ'.1 71 = σ.1 71 := (e 71 (by decide)).1
  have b72 : σ'.2 72 = σ.2 72 := (e 72 (by decide)).2
  have c1086 : τ'.1 1086 = τ.1 1086 := (e2 1086 (by decide)).1
  have c62 : τ'.1 62 = τ.1 62 := (e2 62 (by decide)).1
  have c63 : τ'.1 63 = τ.1 63 := (e2 63 (by decide)).1
  have c64 : τ'.1 64 = τ.1 64 := (e2 64 (by decide)).1
  unfold RFill at h ⊢
  rw [a14405, a70, a71, b72, c1086, c62, c63, c64]
  exact h
theorem RVals.fr {σ τ σ' τ' : St} {V W : List Nat} {ns : Nat} (h : RVals σ τ ns) (f : Fr V σ σ') (g : Fr W τ τ') (hv : ([15600, 15601, 74, 75, 76, 77, 78] : List Nat).all (fun a => !V.contains a) = true) (hw : ([1096, 1097, 65, 66, 67, 68, 69] : List Nat).all (fun a => !W.contains a) = true) : RVals σ' τ' ns := by
  have e := f.at hv
  have e2 := g.at hw
  have a15600 : σ'.1 15600 = σ.1 15600 := (e 15600 (by decide)).1
  have a15601 : σ'.1 15601 = σ.1 15601 := (e 15601 (by decide)).1
  have a74 : σ'.1 74 = σ.1 74 := (e 74 (by decide)).1
  have a75 : σ'.1 75 = σ.1 75 := (e 75 (by decide)).1
  have a76 : σ'.1 76 = σ.1 76 := (e 76 (by decide)).1
  have a77 : σ'.1 77 = σ.1 77 := (e 77 (by decide)).1
  have a78 : σ'.1 78 = σ.1 78 := (e 78 (by decide)).1
  have c1096 : τ'.1 1096 = τ.1 1096 := (e2 1096 (by decide)).1
  have c1097 : τ'.1 1097 = τ.1 1097 := (e2 1097 (by decide)).1
  have c65 : τ'.1 65 = τ.1 65 := (e2 65 (by decide)).1
  have c66 : τ'.1 66 = τ.1 66 := (e2 66 (by decide)).1
  have c67 : τ'.1 67 = τ.1 67 := (e2 67 (by decide)).1
  have c68 : τ'.1 68 = τ.1 68 := (e2 68 (by decide)).1
  have c69 : τ'.1 69 = τ.1 69 := (e2 69 (by decide)).1
  unfold RVals at h ⊢
  rw [a15600, a15601, a74, a75, a76, a77, a78, c1096, c1097, c65, c66, c67, c68, c69]
  exact h
