noncomputable def fX11_copies_v5_J28 (y4 : Nat → Int32) : Option ((Nat → Int32)) :=
  some y4
noncomputable def fX11_copies_v5_L3 (mWorld : Nat → Int32) (a1 : Int32) (a3 : Int32) (y1 : Int32) (y2 : Nat → Int32) : Option ((Int32 × (Nat → Int32)) ⊕ ((Nat → Int32))) :=
  xsBr ((121 : Int32) ≤ y1) (some (.inr y2)) (xsCk (vp_in (a1 + y1) 121) (xsCk (vp_in (a3 + y1) 121) (xsLt (upd y2 (a3 + y1).toNatClampNeg (mWorld (a1 + y1).toNatClampNeg)) (fun f7 => xsLt (y1 + (1 : Int32)) (fun x8 => some (.inl (x8, f7)))))))
noncomputable def fX11_copies_v5 (mWorld : Nat → Int32) (mDraft : Nat → Int32) (a1 : Int32) (a3 : Int32) : Option ((Nat → Int32)) :=
  xsBd (xsWh (fun s3 => fX11_copies_v5_L3 mWorld a1 a3 s3.1 s3.2) ((0 : Int32), mDraft)) (fun r3 => fX11_copies_v5_J28 r3)
noncomputable def fX11_isWord_J67 (y5 : Int32) : Option (Int32) :=
  xsCk (xsB y5) (some y5)
noncomputable def fX11_isWord_J60 (y3 : Int32) (y9 : Int32) : Option ((Int32 × Int32) ⊕ (Int32)) :=
  xsLt (y3 + (1 : Int32)) (fun x10 => some (.inl (y9, x10)))
noncomputable def fX11_isWord_L24 (mTape : Nat → Int32) (mBegin : Int32) (ks : Nat) (y2 : Int32) (y3 : Int32) : Option ((Int32 × Int32) ⊕ (Int32)) :=
  xsBr (y2 = 0) (some (.inr y2)) (xsBr ((nI (xsLen ks)) ≤ y3) (some (.inr y2)) (xsCk (vp_in (mBegin + y3) 400) (xsCk (vp_in y3 (xsLen ks)) (xsBd (xsBr ((mTape (mBegin + y3).toNatClampNeg) = (xsChr ks y3.toNatClampNeg)) (some (1 : Int32)) (some (0 : Int32))) (fun v11 => fX11_isWord_J60 y3 v11)))))
noncomputable def fX11_isWord_J21 (mTape : Nat → Int32) (mBegin : Int32) (ks : Nat) (y1 : Int32) : Option (Int32) :=
  xsBd (xsWh (fun s4 => fX11_isWord_L24 mTape mBegin ks s4.1 s4.2) (y1, (0 : Int32))) (fun r4 => fX11_isWord_J67 r4)
noncomputable def fX11_isWord (mTape : Nat → Int32) (mPoint : Int32) (mBegin : Int32) (ks : Nat) : Option (Int32) :=
  xsBd (xsBr ((mPoint - mBegin) = (nI (xsLen ks))) (some (1 : Int32)) (some (0 : Int32))) (fun v17 => fX11_isWord_J21 mTape mBegin ks v17)
noncomputable def fX11_passesWord (mTape : Nat → Int32) (mPoint : Int32) (mEnd : Int32) (mBegin : Int32) (ks : Nat) : Option (Int32 × Int32 × Int32) :=
  xsBd (fX11_letters mTape mPoint mEnd mBegin) (fun o1 => xsBd (fX11_isWord mTape o1.1 o1.2 ks) (fun o3 => xsBr (o3 = 0) (some ((0 : Int32), o1.2, o1.2)) (some ((1 : Int32), o1.1, o1.2))))
noncomputable def fX11_readsSegment_J23 (mTape : Nat → Int32) (mEnd : Int32) (y6 : Int32) (y7 : Int32) (y8 : Nat → Int32) : Option (Int32 × Int32 × Int32 × (Nat → Int32)) :=
  xsCk (vp_in (4 : Int32) 5) (xsLt (upd y8 (4 : Int32).toNatClampNeg (0 : Int32)) (fun f10 => xsBd (fX11_passesWord mTape y6 mEnd y7 (1)) (fun o11 => xsBr (o11.1 = 0) (some ((1 : Int32), o11.2.1, o11.2.2, f10)) (xsBd (fX11_reads mTape o11.2.1 mEnd o11.2.2 f10 (4 : Int32) (0 : Int32) (3 : Int32)) (fun o13 => xsBr (o13.1 = 0) (some ((0 : Int32), o13.2.1, o13.2.2.1, o13.2.2.2)) (some ((1 : Int32), o13.2.1, o13.2.2.1, o13.2.2.2)))))))
noncomputable def fX11_readsSegment_L2 (mTape : Nat → Int32) (mEnd : Int32) (y1 : Int32) (y2 : Int32) (y3 : Int32) (y4 : Nat → Int32) : Option ((Int32 × Int32 × Int32 × (Nat → Int32)) ⊕ ((Int32 × Int32 × Int32 × (Nat → Int32)) ⊕ (Int32 × Int32 × (Nat → Int32)))) :=
  xsBr ((4 : Int32) ≤ y1) (some (.inr (.inr (y2, y3, y4)))) (xsBd (fX11_readsSigned mTape y2 mEnd y3 y4 y1) (fun o17 => xsBr (o17.1 = 0) (some (.inr (.inl ((0 : Int32), o17.2.1, o17.2.2.1, o17.2.2.2)))) (xsLt (y1 + (1 : Int32)) (fun x19 => some (.inl (x19, o17.2.1, o17.2.2.1, o17.2.2.2))))))
noncomputable def fX11_readsSegment (mTape : Nat → Int32) (mPoint : Int32) (mEnd : Int32) (mBegin : Int32) (mTold : Nat → Int32) : Option (Int32 × Int32 × Int32 × (Nat → Int32)) :=
  xsBd (xsWh (fun s5 => fX11_readsSegment_L2 mTape mEnd s5.1 s5.2.1 s5.2.2.1 s5.2.2.2) ((0 : Int32), mPoint, mBegin, mTold)) (fun r5 => xsSm r5 (fun v5 => fX11_readsSegment_J23 mTape mEnd v5.1 v5.2.1 v5.2.2))
noncomputable def fX11_readAct (mWorld : Nat → Int32) (mIsLaid : Int32) (mTape : Nat → Int32) (mPoint : Int32) (mEnd : Int32) (mBegin : Int32) (mTold : Nat → Int32) : Option (Int32 × (Nat → Int32) × Int32 × Int32 × Int32 × (Nat → Int32)) :=
  xsBd (fX11_letters mTape mPoint mEnd mBegin) (fun o1 => xsBd (fX11_isWord mTape o1.1 o1.2 (0)) (fun o3 => xsBr (o3 = 0) (xsBd (fX11_isWord mTape o1.1 o1.2 (2)) (fun o5 => xsBr (o5 = 0) (xsBd (fX11_isWord mTape o1.1 o1.2 (3)) (fun o7 => xsBr (o7 = 0) (xsBd (fX11_isWord mTape o1.1 o1.2 (1)) (fun o9 => xsBr (o9 = 0) (xsBd (fX11_isWord mTape o1.1 o1.2 (5)) (fun o11 => xsBr (o11 = 0) (some ((0 : Int32), mWorld, mIsLaid, o1.1, o1.2, mTold)) (xsBd (fX11_turns mWorld mIsLaid) (fun o13 => some ((1 : Int32), o13.1, o13.2, o1.1, o1.2, mTold))))) (xsBd (fX11_many mWorld) (fun o16 => xsBd (fX11_reads mTape o1.1 mEnd o1.2 mTold (0 : Int32) (0 : Int32) (o16 - (1 : Int32))) (fun o18 => xsBr (o18.1 = 0) (some ((0 : Int32), mWorld, mIsLaid, o18.2.1, o18.2.2.1, o18.2.2.2)) (xsBd (fX11_reads mTape o18.2.1 mEnd o18.2.2.1 o18.2.2.2 (1 : Int32) (0 : Int32) (3 : Int32)) (fun o20 => xsBr (o20.1 = 0) (some ((0 : Int32), mWorld, mIsLaid, o20.2.1, o20.2.2.1, o20.2.2.2)) (xsCk (vp_in (0 : Int32) 5) (xsCk (vp_in (1 : Int32) 5) (xsCk (vp_in (((1 : Int32) + ((5 : Int32) * (o20.2.2.2 (0 : Int32).toNatClampNeg))) + (4 : Int32)) 121) (xsLt (upd mWorld (((1 : Int32) + ((5 : Int32) * (o20.2.2.2 (0 : Int32).toNatClampNeg))) + (4 : Int32)).toNatClampNeg (o20.2.2.2 (1 : Int32).toNatClampNeg)) (fun f25 => some ((1 : Int32), f25, mIsLaid, o20.2.1, o20.2.2.1, o20.2.2.2))))))))))))) (xsBd (fX11_many mWorld) (fun o29 => xsBd (fX11_reads mTape o1.1 mEnd o1.2 mTold (2 : Int32) (0 : Int32) (o29 - (1 : Int32))) (fun o31 => xsBr (o31.1 = 0) (some ((0 : Int32), mWorld, mIsLaid, o31.2.1, o31.2.2.1, o31.2.2.2)) (xsBd (fX11_passesWord mTape o31.2.1 mEnd o31.2.2.1 (4)) (fun o33 => xsBr (o33.1 = 0) (some ((0 : Int32), mWorld, mIsLaid, o33.2.1, o33.2.2, o31.2.2.2)) (xsBd (fX11_readsSigned mTape o33.2.1 mEnd o33.2.2 o31.2.2.2 (0 : Int32)) (fun o35 => xsBr (o35.1 = 0) (some ((0 : Int32), mWorld, mIsLaid, o35.2.1, o35.2.2.1, o35.2.2.2)) (xsBd (fX11_readsSigned mTape o35.2.1 mEnd o35.2.2.1 o35.2.2.2 (1 : Int32)) (fun o37 => xsBr (o37.1 = 0) (some ((0 : Int32), mWorld, mIsLaid, o37.2.1, o37.2.2.1, o37.2.2.2)) (xsCk (vp_in (2 : Int32) 5) (xsCk (vp_in (0 : Int32) 5) (xsCk (vp_in (1 : Int32) 5) (xsBd (fX11_canMove mWorld (o37.2.2.2 (2 : Int32).toNatClampNeg) (o37.2.2.2 (0 : Int32).toNatClampNeg) (o37.2.2.2 (1 : Int32).toNatClampNeg)) (fun o42 => xsBr (o42 = 0) (xsBd (fX11_wrongAt o37.2.2.1 o1.2) (fun o49 => xsCk (xsB o49.1) (some (o49.1, mWorld, mIsLaid, o37.2.1, o49.2, o37.2.2.2)))) (xsCk (vp_in (2 : Int32) 5) (xsCk (vp_in (0 : Int32) 5) (xsCk (vp_in (1 : Int32) 5) (xsBd (fX11_moves mWorld mIsLaid (o37.2.2.2 (2 : Int32).toNatClampNeg) (o37.2.2.2 (0 : Int32).toNatClampNeg) (o37.2.2.2 (1 : Int32).toNatClampNeg)) (fun o47 => some ((1 : Int32), o47.1, o47.2, o37.2.1, o37.2.2.1, o37.2.2.2)))))))))))))))))))))) (xsBd (fX11_many mWorld) (fun o58 => xsBd (fX11_reads mTape o1.1 mEnd o1.2 mTold (0 : Int32) (0 : Int32) (o58 - (1 : Int32))) (fun o60 => xsBr (o60.1 = 0) (some ((0 : Int32), mWorld, mIsLaid, o60.2.1, o60.2.2.1, o60.2.2.2)) (xsCk (vp_in (0 : Int32) 5) (xsBd (fX11_cuts mWorld mIsLaid (o60.2.2.2 (0 : Int32).toNatClampNeg)) (fun o63 => some ((1 : Int32), o63.1, o63.2, o60.2.1, o60.2.2.1, o60.2.2.2))))))))) (xsBd (fX11_readsSegment mTape o1.1 mEnd o1.2 mTold) (fun o67 => xsBr (o67.1 = 0) (some ((0 : Int32), mWorld, mIsLaid, o67.2.1, o67.2.2.1, o67.2.2.2)) (xsBd (fX11_many mWorld) (fun o69 => xsBr (o69 = (24 : Int32)) (xsBd (fX11_wrongAt o67.2.2.1 o1.2) (fun o78 => xsCk (xsB o78.1) (some (o78.1, mWorld, mIsLaid, o67.2.1, o78.2, o67.2.2.2)))) (xsCk (vp_in (0 : Int32) 5) (xsCk (vp_in (1 : Int32) 5) (xsCk (vp_in (2 : Int32) 5) (xsCk (vp_in (3 : Int32) 5) (xsCk (vp_in (4 : Int32) 5) (xsBd (fX11_adds mWorld mIsLaid (o67.2.2.2 (0 : Int32).toNatClampNeg) (o67.2.2.2 (1 : Int32).toNatClampNeg) (o67.2.2.2 (2 : Int32).toNatClampNeg) (o67.2.2.2 (3 : Int32).toNatClampNeg) (o67.2.2.2 (4 : Int32).toNatClampNeg)) (fun o76 => some ((1 : Int32), o76.2.1, o76.2.2, o67.2.1, o67.2.2.1, o67.2.2.2))))))))))))))
noncomputable def fX11_readActs_J31 (mTape : Nat → Int32) (mEnd : Int32) (y10 : Nat → Int32) (y11 : Int32) (y12 : Int32) (y13 : Int32) (y14 : Nat → Int32) (y15 : Int32) : Option (Int32 × (Nat → Int32) × Int32 × Int32 × Int32 × (Nat → Int32) × Int32) :=
  xsBd (fX11_letters mTape y12 mEnd y13) (fun o16 => some ((0 : Int32), y10, y11, o16.1, o16.2, y14, y15))
noncomputable def fX11_readActs_L22 (mTape : Nat → Int32) (mEnd : Int32) (y3 : Nat → Int32) (y4 : Int32) (y5 : Int32) (y6 : Int32) (y7 : Nat → Int32) (y8 : Int32) : Option (((Nat → Int32) × Int32 × Int32 × Int32 × (Nat → Int32) × Int32) ⊕ ((Int32 × (Nat → Int32) × Int32 × Int32 × Int32 × (Nat → Int32) × Int32) ⊕ ((Nat → Int32) × Int32 × Int32 × Int32 × (Nat → Int32) × Int32))) :=
  xsBr (y8 = (14 : Int32)) (some (.inr (.inr (y3, y4, y5, y6, y7, y8)))) (xsBd (fX11_readAct y3 y4 mTape y5 mEnd y6 y7) (fun o18 => xsBr (o18.1 = 0) (some (.inr (.inl ((0 : Int32), o18.2.1, o18.2.2.1, o18.2.2.2.1, o18.2.2.2.2.1, o18.2.2.2.2.2, y8)))) (xsLt ((y8 + (1 : Int32))) (fun x20 => xsBd (fX11_blanks mTape o18.2.2.2.1 mEnd o18.2.2.2.2.1) (fun o21 => xsBr (o21.1 = mEnd) (some (.inr (.inl ((1 : Int32), o18.2.1, o18.2.2.1, o21.1, o21.2, o18.2.2.2.2.2, x20)))) (xsBd (fX11_isAt mTape o21.1 mEnd (59 : Int32) (59 : Int32)) (fun o23 => xsBr (o23 = 0) (some (.inr (.inl ((0 : Int32), o18.2.1, o18.2.2.1, o21.1, o21.2, o18.2.2.2.2.2, x20)))) (xsLt ((o21.1 + (1 : Int32))) (fun x25 => some (.inl (o18.2.1, o18.2.2.1, x25, o21.2, o18.2.2.2.2.2, x20)))))))))))
noncomputable def fX11_readActs (mWorld : Nat → Int32) (mIsLaid : Int32) (mTape : Nat → Int32) (mPoint : Int32) (mEnd : Int32) (mBegin : Int32) (mTold : Nat → Int32) (mActs : Int32) : Option (Int32 × (Nat → Int32) × Int32 × Int32 × Int32 × (Nat → Int32) × Int32) :=
  xsBd (fX11_blanks mTape mPoint mEnd mBegin) (fun o1 => xsBr (o1.1 = mEnd) (some ((1 : Int32), mWorld, mIsLaid, o1.1, o1.2, mTold, (0 : Int32))) (xsBd (xsWh (fun s9 => fX11_readActs_L22 mTape mEnd s9.1 s9.2.1 s9.2.2.1 s9.2.2.2.1 s9.2.2.2.2.1 s9.2.2.2.2.2) (mWorld, mIsLaid, o1.1, o1.2, mTold, (0 : Int32))) (fun r9 => xsSm r9 (fun v9 => fX11_readActs_J31 mTape mEnd v9.1 v9.2.1 v9.2.2.1 v9.2.2.2.1 v9.2.2.2.2.1 v9.2.2.2.2.2))))
noncomputable def fX11_copies_v6_J28 (y4 : Nat → Int32) : Option ((Nat → Int32)) :=
  some y4
noncomputable def fX11_copies_v6_L3 (mDraft : Nat → Int32) (a1 : Int32) (a3 : Int32) (y1 : Int32) (y2 : Nat → Int32) : Option ((Int32 × (Nat → Int32)) ⊕ ((Nat → Int32))) :=
  xsBr ((121 : Int32) ≤ y1) (some (.inr y2)) (xsCk (vp_in (a1 + y1) 121) (xsCk (vp_in (a3 + y1) 121) (xsLt (upd y2 (a3 + y1).toNatClampNeg (mDraft (a1 + y1).toNatClampNeg)) (fun f7 => xsLt (y1 + (1 : Int32)) (fun x8 => some (.inl (x8, f7)))))))
noncomputable def fX11_copies_v6 (mWorld : Nat → Int32) (mDraft : Nat → Int32) (a1 : Int32) (a3 : Int32) : Option ((Nat → Int32)) :=
  xsBd (xsWh (fun s3 => fX11_copies_v6_L3 mDraft a1 a3 s3.1 s3.2) ((0 : Int32), mWorld)) (fun r3 => fX11_copies_v6_J28 r3)
noncomputable def fX11_acts_J72 (mRemembered : Int32) (mTaped : Int32) (o1 : (Nat → Int32)) (o3 : Int32 × (Nat → Int32) × Int32 × Int32 × Int32 × (Nat → Int32) × Int32) (y5 : Int32) (y6 : Int32) : Option (Int32 × Int32 × (Nat → Int32) × (Nat → Int32) × Int32 × Int32 × Int32 × Int32 × Int32 × Int32 × Int32 × (Nat → Int32) × Int32) :=
  xsBd (fX11_throwsIf (0 : Int32) y6 (1 : Int32)) (fun o7 => xsBr (o7.1 = 0) (some (o3.2.2.2.2.2.2, o7.2, o3.2.1, o1, (0 : Int32), (0 : Int32), (0 : Int32), o3.2.2.2.1, mTaped, o3.2.2.2.2.1, y5, o3.2.2.2.2.2.1, o3.2.2.2.2.2.2)) (xsBd (fX11_copies_v6 o3.2.1 o1 (0 : Int32) (0 : Int32)) (fun o9 => some ((0 : Int32), o7.2, o9, o1, mRemembered, (0 : Int32), (0 : Int32), o3.2.2.2.1, mTaped, o3.2.2.2.2.1, y5, o3.2.2.2.2.2.1, o3.2.2.2.2.2.2))))
noncomputable def fX11_acts_J59 (mRemembered : Int32) (mTaped : Int32) (o1 : (Nat → Int32)) (o3 : Int32 × (Nat → Int32) × Int32 × Int32 × Int32 × (Nat → Int32) × Int32) (y5 : Int32) : Option (Int32 × Int32 × (Nat → Int32) × (Nat → Int32) × Int32 × Int32 × Int32 × Int32 × Int32 × Int32 × Int32 × (Nat → Int32) × Int32) :=
  xsBd (xsBr (o3.1 = 0) (some (1 : Int32)) (some (0 : Int32))) (fun v12 => fX11_acts_J72 mRemembered mTaped o1 o3 y5 v12)
noncomputable def fX11_acts (mThrown : Int32) (mWorld : Nat → Int32) (mDraft : Nat → Int32) (mRemembered : Int32) (mIsLaid : Int32) (mTape : Nat → Int32) (mTaped : Int32) (mPoint : Int32) (mEnd : Int32) (mBegin : Int32) (mFaultAt : Int32) (mTold : Nat → Int32) (mActs : Int32) : Option (Int32 × Int32 × (Nat → Int32) × (Nat → Int32) × Int32 × Int32 × Int32 × Int32 × Int32 × Int32 × Int32 × (Nat → Int32) × Int32) :=
  xsBd (fX11_copies_v5 mWorld mDraft (0 : Int32) (0 : Int32)) (fun o1 => xsBd (fX11_readActs mWorld mIsLaid mTape (0 : Int32) mTaped mBegin mTold mActs) (fun o3 => xsBd (xsBr (o3.1 = 0) (some o3.2.2.2.2.1) (some (-1 : Int32))) (fun v16 => fX11_acts_J59 mRemembered mTaped o1 o3 v16)))
noncomputable def fX6_readWord_J89 (ks : Nat) (o1 : Int32) (y6 : Int32) (y7 : Int32) : Option (Int32 × Int32) :=
  xsBr (y7 = 0) (some ((0 : Int32), o1)) (xsBr ((y6 - o1) = (nI (xsLen ks))) (some ((1 : Int32), y6)) (some ((0 : Int32), o1)))
noncomputable def fX6_readWord_J82 (y3 : Int32) (y13 : Int32) : Option ((Int32 × Int32) ⊕ (Int32 × Int32)) :=
  xsLt (y3 + (1 : Int32)) (fun x14 => some (.inl (x14, y13)))
noncomputable def fX6_readWord_L11 (scBytes : Nat → Int32) (scLength : Int32) (ks : Nat) (o1 : Int32) (y3 : Int32) (y4 : Int32) : Option ((Int32 × Int32) ⊕ (Int32 × Int32)) :=
  xsBr (scLength ≤ y3) (some (.inr (y3, y4))) (xsCk (vp_in y3 400) (xsBr ((scBytes y3.toNatClampNeg) < (97 : Int32)) (some (.inr (y3, y4))) (xsCk (vp_in y3 400) (xsBr ((122 : Int32) < (scBytes y3.toNatClampNeg)) (some (.inr (y3, y4))) (xsLt ((y3 - o1)) (fun x12 => xsBd (xsBr (y4 = 0) (some (0 : Int32)) (xsBr ((nI (xsLen ks)) ≤ x12) (some (0 : Int32)) (xsCk (vp_in x12 (xsLen ks)) (xsCk (vp_in y3 400) (xsBr ((xsChr ks x12.toNatClampNeg) = (scBytes y3.toNatClampNeg)) (some (1 : Int32)) (some (0 : Int32))))))) (fun v15 => fX6_readWord_J82 y3 v15)))))))
noncomputable def fX6_readWord (scBytes : Nat → Int32) (scLength : Int32) (scAt : Int32) (ks : Nat) : Option (Int32 × Int32) :=
  xsBd (fX6_skipBlanks scBytes scLength scAt) (fun o1 => xsBd (xsWh (fun s5 => fX6_readWord_L11 scBytes scLength ks o1 s5.1 s5.2) (o1, (1 : Int32))) (fun r5 => fX6_readWord_J89 ks o1 r5.1 r5.2))
noncomputable def fX6_readSeg_J68 (g3Lx : Nat → Int32) (g3Ly : Nat → Int32) (g3Rx : Nat → Int32) (g3Ry : Nat → Int32) (g3Ti : Nat → Int32) (g3Sz : Int32) (a0 : Int32) (y15 : Nat → Int32) (y16 : Int32) (y17 : Int32) (y18 : Int32) : Option (Int32 × (Nat → Int32) × Int32 × Int32 × Int32 × (Nat → Int32) × (Nat → Int32) × (Nat → Int32) × (Nat → Int32) × (Nat → Int32) × Int32) :=
  xsBd (fX7_isFull g3Sz) (fun o19 => xsBr (o19 = 0) (xsCk (vp_in (0 : Int32) 5) (xsCk (vp_in (1 : Int32) 5) (xsCk (vp_in (2 : Int32) 5) (xsCk (vp_in (3 : Int32) 5) (xsCk (vp_in (4 : Int32) 5) (xsBd (fX7_append g3Lx g3Ly g3Rx g3Ry g3Ti g3Sz (y15 (0 : Int32).toNatClampNeg) (y15 (1 : Int32).toNatClampNeg) (y15 (2 : Int32).toNatClampNeg) (y15 (3 : Int32).toNatClampNeg) (y15 (4 : Int32).toNatClampNeg)) (fun o26 => some ((1 : Int32), y15, y16, y17, y18, o26.1, o26.2.1, o26.2.2.1, o26.2.2.2.1, o26.2.2.2.2.1, o26.2.2.2.2.2)))))))) (xsBd (fX6_refuse y16 a0) (fun o28 => xsCk (xsB o28.1) (some (o28.1, y15, o28.2, y17, y18, g3Lx, g3Ly, g3Rx, g3Ry, g3Ti, g3Sz)))))
noncomputable def fX6_readSeg_J32 (scBytes : Nat → Int32) (scLength : Int32) (g3Lx : Nat → Int32) (g3Ly : Nat → Int32) (g3Rx : Nat → Int32) (g3Ry : Nat → Int32) (g3Ti : Nat → Int32) (g3Sz : Int32) (a0 : Int32) (y7 : Nat → Int32) (y8 : Int32) (y9 : Int32) (y10 : Int32) : Option (Int32 × (Nat → Int32) × Int32 × Int32 × Int32 × (Nat → Int32) × (Nat → Int32) × (Nat → Int32) × (Nat → Int32) × (Nat → Int32) × Int32) :=
  xsCk (vp_in (4 : Int32) 5) (xsLt (upd y7 (4 : Int32).toNatClampNeg (0 : Int32)) (fun f12 => xsBd (fX6_readWord scBytes scLength y9 (1)) (fun o13 => xsBr (o13.1 = 0) (fX6_readSeg_J68 g3Lx g3Ly g3Rx g3Ry g3Ti g3Sz a0 f12 y8 o13.2 y10) (xsBd (fX6_readNumber scBytes scLength y8 o13.2 y10 (3 : Int32)) (fun o33 => xsBr (o33.1 = 0) (some ((0 : Int32), f12, o33.2.1, o33.2.2.1, o33.2.2.2, g3Lx, g3Ly, g3Rx, g3Ry, g3Ti, g3Sz)) (xsCk (vp_in (4 : Int32) 5) (xsLt (upd f12 (4 : Int32).toNatClampNeg o33.2.2.2) (fun f36 => fX6_readSeg_J68 g3Lx g3Ly g3Rx g3Ry g3Ti g3Sz a0 f36 o33.2.1 o33.2.2.1 o33.2.2.2))))))))
noncomputable def fX6_readSeg_L2 (scBytes : Nat → Int32) (scLength : Int32) (g3Lx : Nat → Int32) (g3Ly : Nat → Int32) (g3Rx : Nat → Int32) (g3Ry : Nat → Int32) (g3Ti : Nat → Int32) (g3Sz : Int32) (y1 : Int32) (y2 : Nat → Int32) (y3 : Int32) (y4 : Int32) (y5 : Int32) : Option ((Int32 × (Nat → Int32) × Int32 × Int32 × Int32) ⊕ ((Int32 × (Nat → Int32) × Int32 × Int32 × Int32 × (Nat → Int32) × (Nat → Int32) × (Nat → Int32) × (Nat → Int32) × (Nat → Int32) × Int32) ⊕ ((Nat → Int32) × Int32 × Int32 × Int32))) :=
  xsBr ((4 : Int32) ≤ y1) (some (.inr (.inr (y2, y3, y4, y5)))) (xsBd (fX6_readSigned scBytes scLength y3 y4 y5) (fun o39 => xsBr (o39.1 = 0) (some (.inr (.inl ((0 : Int32), y2, o39.2.1, o39.2.2.1, o39.2.2.2, g3Lx, g3Ly, g3Rx, g3Ry, g3Ti, g3Sz)))) (xsCk (vp_in y1 5) (xsLt (upd y2 y1.toNatClampNeg o39.2.2.2) (fun f42 => xsLt (y1 + (1 : Int32)) (fun x43 => some (.inl (x43, f42, o39.2.1, o39.2.2.1, o39.2.2.2))))))))
noncomputable def fX6_readSeg (scBytes : Nat → Int32) (scTold : Nat → Int32) (scLength : Int32) (scFault : Int32) (scAt : Int32) (scNumber : Int32) (g3Lx : Nat → Int32) (g3Ly : Nat → Int32) (g3Rx : Nat → Int32) (g3Ry : Nat → Int32) (g3Ti : Nat → Int32) (g3Sz : Int32) (a0 : Int32) : Option (Int32 × (Nat → Int32) × Int32 × Int32 × Int32 × (Nat → Int32) × (Nat → Int32) × (Nat → Int32) × (Nat → Int32) × (Nat → Int32) × Int32) :=
  xsBd (xsWh (fun s6 => fX6_readSeg_L2 scBytes scLength g3Lx g3Ly g3Rx g3Ry g3Ti g3Sz s6.1 s6.2.1 s6.2.2.1 s6.2.2.2.1 s6.2.2.2.2) ((0 : Int32), scTold, scFault, scAt, scNumber)) (fun r6 => xsSm r6 (fun v6 => fX6_readSeg_J32 scBytes scLength g3Lx g3Ly g3Rx g3Ry g3Ti g3Sz a0 v6.1 v6.2.1 v6.2.2.1 v6.2.2.2))
noncomputable def fX6_readMove_J73 (g3Lx : Nat → Int32) (g3Ly : Nat → Int32) (g3Rx : Nat → Int32) (g3Ry : Nat → Int32) (a0 : Int32) (o1 : Int32 × Int32 × Int32 × Int32) (y11 : Nat → Int32) (y12 : Int32) (y13 : Int32) (y14 : Int32) : Option (Int32 × (Nat → Int32) × Int32 × Int32 × Int32 × (Nat → Int32) × (Nat → Int32) × (Nat → Int32) × (Nat → Int32)) :=
  xsCk (vp_in (0 : Int32) 5) (xsCk (vp_in (1 : Int32) 5) (xsBd (fX7_canShift g3Lx g3Ly g3Rx g3Ry o1.2.2.2 ((y11 (0 : Int32).toNatClampNeg).toInt64) ((y11 (1 : Int32).toNatClampNeg).toInt64)) (fun o17 => xsBr (o17 = 0) (xsBd (fX6_refuse y12 a0) (fun o23 => xsCk (xsB o23.1) (some (o23.1, y11, o23.2, y13, y14, g3Lx, g3Ly, g3Rx, g3Ry)))) (xsCk (vp_in (0 : Int32) 5) (xsCk (vp_in (1 : Int32) 5) (xsBd (fX7_shift g3Lx g3Ly g3Rx g3Ry o1.2.2.2 (y11 (0 : Int32).toNatClampNeg) (y11 (1 : Int32).toNatClampNeg)) (fun o21 => some ((1 : Int32), y11, y12, y13, y14, o21.1, o21.2.1, o21.2.2.1, o21.2.2.2))))))))
noncomputable def fX6_readMove_L43 (scBytes : Nat → Int32) (scLength : Int32) (g3Lx : Nat → Int32) (g3Ly : Nat → Int32) (g3Rx : Nat → Int32) (g3Ry : Nat → Int32) (y5 : Int32) (y6 : Nat → Int32) (y7 : Int32) (y8 : Int32) (y9 : Int32) : Option ((Int32 × (Nat → Int32) × Int32 × Int32 × Int32) ⊕ ((Int32 × (Nat → Int32) × Int32 × Int32 × Int32 × (Nat → Int32) × (Nat → Int32) × (Nat → Int32) × (Nat → Int32)) ⊕ ((Nat → Int32) × Int32 × Int32 × Int32))) :=
  xsBr ((2 : Int32) ≤ y5) (some (.inr (.inr (y6, y7, y8, y9)))) (xsBd (fX6_readSigned scBytes scLength y7 y8 y9) (fun o27 => xsBr (o27.1 = 0) (some (.inr (.inl ((0 : Int32), y6, o27.2.1, o27.2.2.1, o27.2.2.2, g3Lx, g3Ly, g3Rx, g3Ry)))) (xsCk (vp_in y5 5) (xsLt (upd y6 y5.toNatClampNeg o27.2.2.2) (fun f30 => xsLt (y5 + (1 : Int32)) (fun x31 => some (.inl (x31, f30, o27.2.1, o27.2.2.1, o27.2.2.2))))))))
noncomputable def fX6_readMove (scBytes : Nat → Int32) (scTold : Nat → Int32) (scLength : Int32) (scFault : Int32) (scAt : Int32) (scNumber : Int32) (g3Lx : Nat → Int32) (g3Ly : Nat → Int32) (g3Rx : Nat → Int32) (g3Ry : Nat → Int32) (g3Sz : Int32) (a0 : Int32) : Option (Int32 × (Nat → Int32) × Int32 × Int32 × Int32 × (Nat → Int32) × (Nat → Int32) × (Nat → Int32) × (Nat → Int32)) :=
  xsBd (fX6_readNumber scBytes scLength scFault scAt scNumber (g3Sz - (1 : Int32))) (fun o1 => xsBr (o1.1 = 0) (some ((0 : Int32), scTold, o1.2.1, o1.2.2.1, o1.2.2.2, g3Lx, g3Ly, g3Rx, g3Ry)) (xsBd (fX6_readWord scBytes scLength o1.2.2.1 (4)) (fun o3 => xsBr (o3.1 = 0) (xsBd (fX6_refuse o1.2.1 o3.2) (fun o34 => xsCk (xsB o34.1) (some (o34.1, scTold, o34.2, o3.2, o1.2.2.2, g3Lx, g3Ly, g3Rx, g3Ry)))) (xsBd (xsWh (fun s10 => fX6_readMove_L43 scBytes scLength g3Lx g3Ly g3Rx g3Ry s10.1 s10.2.1 s10.2.2.1 s10.2.2.2.1 s10.2.2.2.2) ((0 : Int32), scTold, o1.2.1, o3.2, o1.2.2.2)) (fun r10 => xsSm r10 (fun v10 => fX6_readMove_J73 g3Lx g3Ly g3Rx g3Ry a0 o1 v10.1 v10.2.1 v10.2.2.1 v10.2.2.2))))))
noncomputable def fX6_readAct (scBytes : Nat → Int32) (scTold : Nat → Int32) (scLength : Int32) (scFault : Int32) (scAt : Int32) (scNumber : Int32) (g3Lx : Nat → Int32) (g3Ly : Nat → Int32) (g3Rx : Nat → Int32) (g3Ry : Nat → Int32) (g3Ti : Nat → Int32) (g3Sz : Int32) : Option (Int32 × (Nat → Int32) × Int32 × Int32 × Int32 × (Nat → Int32) × (Nat → Int32) × (Nat → Int32) × (Nat → Int32) × (Nat → Int32) × Int32) :=
  xsBd (fX6_readWord scBytes scLength scAt (0)) (fun o1 => xsBr (o1.1 = 0) (xsBd (fX6_readWord scBytes scLength o1.2 (2)) (fun o3 => xsBr (o3.1 = 0) (xsBd (fX6_readWord scBytes scLength o3.2 (3)) (fun o5 => xsBr (o5.1 = 0) (xsBd (fX6_readWord scBytes scLength o5.2 (1)) (fun o7 => xsBr (o7.1 = 0) (xsBd (fX6_readWord scBytes scLength o7.2 (5)) (fun o9 => xsBr (o9.1 = 0) (xsBd (fX6_refuse scFault scAt) (fun o11 => xsCk (xsB o11.1) (some (o11.1, scTold, o11.2, o9.2, scNumber, g3Lx, g3Ly, g3Rx, g3Ry, g3Ti, g3Sz)))) (xsBd (fX7_rotate g3Lx g3Ly g3Rx g3Ry g3Sz) (fun o14 => some ((1 : Int32), scTold, scFault, o9.2, scNumber, o14.1, o14.2.1, o14.2.2.1, o14.2.2.2, g3Ti, g3Sz))))) (xsBd (fX6_readTint scBytes scLength scFault o7.2 scNumber g3Ti g3Sz) (fun o17 => xsCk (xsB o17.1) (some (o17.1, scTold, o17.2.1, o17.2.2.1, o17.2.2.2.1, g3Lx, g3Ly, g3Rx, g3Ry, o17.2.2.2.2, g3Sz)))))) (xsBd (fX6_readMove scBytes scTold scLength scFault o5.2 scNumber g3Lx g3Ly g3Rx g3Ry g3Sz scAt) (fun o21 => xsCk (xsB o21.1) (some (o21.1, o21.2.1, o21.2.2.1, o21.2.2.2.1, o21.2.2.2.2.1, o21.2.2.2.2.2.1, o21.2.2.2.2.2.2.1, o21.2.2.2.2.2.2.2.1, o21.2.2.2.2.2.2.2.2, g3Ti, g3Sz)))))) (xsBd (fX6_readCut scBytes scLength scFault o3.2 scNumber g3Lx g3Ly g3Rx g3Ry g3Ti g3Sz) (fun o25 => xsCk (xsB o25.1) (some (o25.1, scTold, o25.2.1, o25.2.2.1, o25.2.2.2.1, o25.2.2.2.2.1, o25.2.2.2.2.2.1, o25.2.2.2.2.2.2.1, o25.2.2.2.2.2.2.2.1, o25.2.2.2.2.2.2.2.2.1, o25.2.2.2.2.2.2.2.2.2)))))) (xsBd (fX6_readSeg scBytes scTold scLength scFault o1.2 scNumber g3Lx g3Ly g3Rx g3Ry g3Ti g3Sz scAt) (fun o29 => xsCk (xsB o29.1) (some (o29.1, o29.2.1, o29.2.2.1, o29.2.2.2.1, o29.2.2.2.2.1, o29.2.2.2.2.2.1, o29.2.2.2.2.2.2.1, o29.2.2.2.2.2.2.2.1, o29.2.2.2.2.2.2.2.2.1, o29.2.2.2.2.2.2.2.2.2.1, o29.2.2.2.2.2.2.2.2.2.2)))))
noncomputable def fX6_read_J106 (y20 : Int32) (y21 : Nat → Int32) (y22 : Int32) (y23 : Int32) (y24 : Int32) (y25 : Nat → Int32) (y26 : Nat → Int32) (y27 : Nat → Int32) (y28 : Nat → Int32) (y29 : Nat → Int32) (y30 : Int32) : Option (Int32 × (Nat → Int32) × Int32 × Int32 × Int32 × Int32 × (Nat → Int32) × (Nat → Int32) × (Nat → Int32) × (Nat → Int32) × (Nat → Int32) × Int32) :=
  some (y20, y21, (0 : Int32), y22, y23, y24, y25, y26, y27, y28, y29, y30)
noncomputable def fX6_read_J96 (y6 : Int32) (y8 : Int32) (y33 : Int32) (y34 : Nat → Int32) (y35 : Int32) (y36 : Int32) (y37 : Int32) (y38 : Nat → Int32) (y39 : Nat → Int32) (y40 : Nat → Int32) (y41 : Nat → Int32) (y42 : Nat → Int32) (y43 : Int32) : Option ((Int32 × Int32 × Int32 × (Nat → Int32) × Int32 × Int32 × Int32 × (Nat → Int32) × (Nat → Int32) × (Nat → Int32) × (Nat → Int32) × (Nat → Int32) × Int32) ⊕ (Int32 × (Nat → Int32) × Int32 × Int32 × Int32 × (Nat → Int32) × (Nat → Int32) × (Nat → Int32) × (Nat → Int32) × (Nat → Int32) × Int32)) :=
  xsLt (y6 + (1 : Int32)) (fun x44 => xsLt (y8 + (1 : Int32)) (fun x45 => some (.inl (x44, y33, x45, y34, y35, y36, y37, y38, y39, y40, y41, y42, y43))))
noncomputable def fX6_read_L44 (scBytes : Nat → Int32) (scLength : Int32) (y6 : Int32) (y7 : Int32) (y8 : Int32) (y9 : Nat → Int32) (y10 : Int32) (y11 : Int32) (y12 : Int32) (y13 : Nat → Int32) (y14 : Nat → Int32) (y15 : Nat → Int32) (y16 : Nat → Int32) (y17 : Nat → Int32) (y18 : Int32) : Option ((Int32 × Int32 × Int32 × (Nat → Int32) × Int32 × Int32 × Int32 × (Nat → Int32) × (Nat → Int32) × (Nat → Int32) × (Nat → Int32) × (Nat → Int32) × Int32) ⊕ (Int32 × (Nat → Int32) × Int32 × Int32 × Int32 × (Nat → Int32) × (Nat → Int32) × (Nat → Int32) × (Nat → Int32) × (Nat → Int32) × Int32)) :=
  xsBr ((14 : Int32) < y8) (some (.inr (y6, y9, y10, y11, y12, y13, y14, y15, y16, y17, y18))) (xsBr (y7 = 0) (some (.inr (y6, y9, y10, y11, y12, y13, y14, y15, y16, y17, y18))) (xsBd (fX6_skipBlanks scBytes scLength y11) (fun o31 => xsBd (xsBr ((14 : Int32) ≤ y8) (xsBd (fX6_refuse y10 o31) (fun o49 => some (o49.1, y9, o49.2, o31, y12, y13, y14, y15, y16, y17, y18))) (xsBd (fX6_readAct scBytes y9 scLength y10 o31 y12 y13 y14 y15 y16 y17 y18) (fun o51 => xsBr (o51.1 = 0) (some ((0 : Int32), o51.2.1, o51.2.2.1, o51.2.2.2.1, o51.2.2.2.2.1, o51.2.2.2.2.2.1, o51.2.2.2.2.2.2.1, o51.2.2.2.2.2.2.2.1, o51.2.2.2.2.2.2.2.2.1, o51.2.2.2.2.2.2.2.2.2.1, o51.2.2.2.2.2.2.2.2.2.2)) (xsBd (fX6_readBreak scBytes scLength o51.2.2.1 o51.2.2.2.1) (fun o53 => xsBr (o53.1 = 0) (some ((0 : Int32), o51.2.1, o53.2.1, o53.2.2, o51.2.2.2.2.1, o51.2.2.2.2.2.1, o51.2.2.2.2.2.2.1, o51.2.2.2.2.2.2.2.1, o51.2.2.2.2.2.2.2.2.1, o51.2.2.2.2.2.2.2.2.2.1, o51.2.2.2.2.2.2.2.2.2.2)) (some ((1 : Int32), o51.2.1, o53.2.1, o53.2.2, o51.2.2.2.2.1, o51.2.2.2.2.2.1, o51.2.2.2.2.2.2.1, o51.2.2.2.2.2.2.2.1, o51.2.2.2.2.2.2.2.2.1, o51.2.2.2.2.2.2.2.2.2.1, o51.2.2.2.2.2.2.2.2.2.2))))))) (fun v46 => fX6_read_J96 y6 y8 v46.1 v46.2.1 v46.2.2.1 v46.2.2.2.1 v46.2.2.2.2.1 v46.2.2.2.2.2.1 v46.2.2.2.2.2.2.1 v46.2.2.2.2.2.2.2.1 v46.2.2.2.2.2.2.2.2.1 v46.2.2.2.2.2.2.2.2.2.1 v46.2.2.2.2.2.2.2.2.2.2))))
noncomputable def fX6_read_J40 (scBytes : Nat → Int32) (scTold : Nat → Int32) (scLength : Int32) (scNumber : Int32) (o1 : (Nat → Int32) × (Nat → Int32) × (Nat → Int32) × (Nat → Int32) × (Nat → Int32) × Int32) (o3 : Int32) (y5 : Int32) : Option (Int32 × (Nat → Int32) × Int32 × Int32 × Int32 × Int32 × (Nat → Int32) × (Nat → Int32) × (Nat → Int32) × (Nat → Int32) × (Nat → Int32) × Int32) :=
  xsBd (xsWh (fun s19 => fX6_read_L44 scBytes scLength s19.1 s19.2.1 s19.2.2.1 s19.2.2.2.1 s19.2.2.2.2.1 s19.2.2.2.2.2.1 s19.2.2.2.2.2.2.1 s19.2.2.2.2.2.2.2.1 s19.2.2.2.2.2.2.2.2.1 s19.2.2.2.2.2.2.2.2.2.1 s19.2.2.2.2.2.2.2.2.2.2.1 s19.2.2.2.2.2.2.2.2.2.2.2.1 s19.2.2.2.2.2.2.2.2.2.2.2.2) ((0 : Int32), y5, (0 : Int32), scTold, (-1 : Int32), o3, scNumber, o1.1, o1.2.1, o1.2.2.1, o1.2.2.2.1, o1.2.2.2.2.1, o1.2.2.2.2.2)) (fun r19 => fX6_read_J106 r19.1 r19.2.1 r19.2.2.1 r19.2.2.2.1 r19.2.2.2.2.1 r19.2.2.2.2.2.1 r19.2.2.2.2.2.2.1 r19.2.2.2.2.2.2.2.1 r19.2.2.2.2.2.2.2.2.1 r19.2.2.2.2.2.2.2.2.2.1 r19.2.2.2.2.2.2.2.2.2.2)
noncomputable def fX6_read (scBytes : Nat → Int32) (scTold : Nat → Int32) (scLength : Int32) (scFault : Int32) (scAt : Int32) (scNumber : Int32) (sLx : Nat → Int32) (sLy : Nat → Int32) (sRx : Nat → Int32) (sRy : Nat → Int32) (sTi : Nat → Int32) (sSz : Int32) (g3Lx : Nat → Int32) (g3Ly : Nat → Int32) (g3Rx : Nat → Int32) (g3Ry : Nat → Int32) (g3Ti : Nat → Int32) (g3Sz : Int32) : Option (Int32 × (Nat → Int32) × Int32 × Int32 × Int32 × Int32 × (Nat → Int32) × (Nat → Int32) × (Nat → Int32) × (Nat → Int32) × (Nat → Int32) × Int32) :=
  xsBd (fX7_copyFrom g3Lx g3Ly g3Rx g3Ry g3Ti g3Sz sLx sLy sRx sRy sTi sSz) (fun o1 => xsBd (fX6_skipBlanks scBytes scLength (0 : Int32)) (fun o3 => xsBd (xsBr (scLength ≤ o3) (some (0 : Int32)) (some (1 : Int32))) (fun v60 => fX6_read_J40 scBytes scTold scLength scNumber o1 o3 v60)))
set_option maxRecDepth 100000 in
set_option maxHeartbeats 8000000 in
theorem mX11_copies_v5 (l : Launch) {X : xsX} {mThrown mRemembered mHasImage mIsLaid mEvents mCrossings mEdges mTaped mPoint mEnd mBegin mFaultAt mActs : Int32} {mWorld mImage mDraft mEarlier mOne mTwo mShare mCrossingOf mBundle mEventOf mDegree mFrom mTo mMet mTape mFive mTold mFar mViews mHullX mHullY mEndX mEndY mMeets mMeetsOf : Nat → Int32} {mX mY mD mHeightUp mHeightLow : Int64} {mEventX mEventY mEventD mUpper mLower : Nat → Int64} {Rw : va_W} {a1 : Int32} {a3 : Int32} {out : (Nat → Int32)} (hf : fX11_copies_v5 mWorld mDraft a1 a3 = some out) : Met l yX11_copies (xsWs yX11_copies cX11_copies 5 none) { frames := 0, cells := 0, slots := 0, locals := 0 } (xsP X (wM X mThrown mWorld mImage mDraft mEarlier mRemembered mHasImage mIsLaid mOne mTwo mShare mX mY mD mEventX mEventY mEventD mEvents mCrossingOf mBundle mEventOf mDegree mFrom mTo mCrossings mEdges mMet mUpper mLower mTape mTaped mPoint mEnd mBegin mFaultAt mFive mTold mActs mFar mViews mHullX mHullY mEndX mEndY mHeightUp mHeightLow mMeets mMeetsOf Rw) [.ref (xsA X 101), .int a1, .ref (xsA X 103), .int a3]) (xsQv X (wM X mThrown mWorld mImage out mEarlier mRemembered mHasImage mIsLaid mOne mTwo mShare mX mY mD mEventX mEventY mEventD mEvents mCrossingOf mBundle mEventOf mDegree mFrom mTo mCrossings mEdges mMet mUpper mLower mTape mTaped mPoint mEnd mBegin mFaultAt mFive mTold mActs mFar mViews mHullX mHullY mEndX mEndY mHeightUp mHeightLow mMeets mMeetsOf Rw)) 0 0 (xsF X) := by
  refine xs_meth RX11 (by decide) rfl (Nat.le_of_ble_eq_true rfl) ?_
  intro p e s m below meth c ls H locs C hP hD hS hr hlk hl
  have hx := C.1
  have hb := C.2.1
  have hl : lv_has ls 5 [(0, .ref (xsA X 101)), (1, .int a1), (2, .ref (xsA X 103)), (3, .int a3)] := hl
  obtain ⟨Qq, hQq⟩ : ∃ Qq, Qq = xsQv X (wM X mThrown mWorld mImage out mEarlier mRemembered mHasImage mIsLaid mOne mTwo mShare mX mY mD mEventX mEventY mEventD mEvents mCrossingOf mBundle mEventOf mDegree mFrom mTo mCrossings mEdges mMet mUpper mLower mTape mTaped mPoint mEnd mBegin mFaultAt mFive mTold mActs mFar mViews mHullX mHullY mEndX mEndY mHeightUp mHeightLow mMeets mMeetsOf Rw) := ⟨_, rfl⟩
  rw [← hQq]
  unfold fX11_copies_v5 at hf
  refine lv_iconst (v := (0 : Int32)) hx hb dX11_copies_0 (by decide) ?_
  refine lv_istore (lv' := [(4, .int (0 : Int32)), (0, .ref (xsA X 101)), (1, .int a1), (2, .ref (xsA X 103)), (3, .int a3)]) hx hb dX11_copies_1 hl (by decide) rfl (fun ls hl => ?_)
  have K3 : ∀ (y4 : Nat → Int32) (hf : fX11_copies_v5_J28 y4 = some out) (H : Heap) (locs : List Loc) (ls : Array Slot), va_P (xsD X) vwCl (wM X mThrown mWorld mImage y4 mEarlier mRemembered mHasImage mIsLaid mOne mTwo mShare mX mY mD mEventX mEventY mEventD mEvents mCrossingOf mBundle mEventOf mDegree mFrom mTo mCrossings mEdges mMet mUpper mLower mTape mTaped mPoint mEnd mBegin mFaultAt mFive mTold mActs mFar mViews mHullX mHullY mEndX mEndY mHeightUp mHeightLow mMeets mMeetsOf Rw) H → va_D (xsF X) (wM X mThrown mWorld mImage y4 mEarlier mRemembered mHasImage mIsLaid mOne mTwo mShare mX mY mD mEventX mEventY mEventD mEvents mCrossingOf mBundle mEventOf mDegree mFrom mTo mCrossings mEdges mMet mUpper mLower mTape mTaped mPoint mEnd mBegin mFaultAt mFive mTold mActs mFar mViews mHullX mHullY mEndX mEndY mHeightUp mHeightLow mMeets mMeetsOf Rw) → va_S (xsF X) s.heap H locs → lv_has ls 5 [] → W p l e { frames := 0, cells := 0, slots := 0, locals := 0 } s m ([.ref (xsA X 101), .int a1, .ref (xsA X 103), .int a3] : List Value).toArray below meth c H locs 0 0 (MQ below Qq ([.ref (xsA X 101), .int a1, .ref (xsA X 103), .int a3] : List Value).toArray s 0 0 (xsF X)) (F0 m 28 ls []) := by
    intro y4 hf H locs ls hP hD hS hl
    unfold fX11_copies_v5_J28 at hf
    have ho := Option.some.inj hf
    subst ho
    rw [hQq]
    exact xs_vret C hr hlk hP hD hS dX11_copies_28
  replace hf := xsBd_use hf
  obtain ⟨r3, hk30, hf⟩ := hf
  have L3 : ∀ (sg : Int32 × (Nat → Int32)) (rg : (Nat → Int32)), xsWh (fun s3 => fX11_copies_v5_L3 mWorld a1 a3 s3.1 s3.2) sg = some rg → (fX11_copies_v5_J28 rg = some out → ∀ (H : Heap) (locs : List Loc) (ls : Array Slot), va_P (xsD X) vwCl (wM X mThrown mWorld mImage sg.2 mEarlier mRemembered mHasImage mIsLaid mOne mTwo mShare mX mY mD mEventX mEventY mEventD mEvents mCrossingOf mBundle mEventOf mDegree mFrom mTo mCrossings mEdges mMet mUpper mLower mTape mTaped mPoint mEnd mBegin mFaultAt mFive mTold mActs mFar mViews mHullX mHullY mEndX mEndY mHeightUp mHeightLow mMeets mMeetsOf Rw) H → va_D (xsF X) (wM X mThrown mWorld mImage sg.2 mEarlier mRemembered mHasImage mIsLaid mOne mTwo mShare mX mY mD mEventX mEventY mEventD mEvents mCrossingOf mBundle mEventOf mDegree mFrom mTo mCrossings mEdges mMet mUpper mLower mTape mTaped mPoint mEnd mBegin mFaultAt mFive mTold mActs mFar mViews mHullX mHullY mEndX mEndY mHeightUp mHeightLow mMeets mMeetsOf Rw) → va_S (xsF X) s.heap H locs → lv_has ls 5 [(0, .ref (xsA X 101)), (1, .int a1), (2, .ref (xsA X 103)), (3, .int a3), (4, .int sg.1)] → W p l e { frames := 0, cells := 0, slots := 0, locals := 0 } s m ([.ref (xsA X 101), .int a1, .ref (xsA X 103), .int a3] : List Value).toArray below meth c H locs 0 0 (MQ below Qq ([.ref (xsA X 101), .int a1, .ref (xsA X 103), .int a3] : List Value).toArray s 0 0 (xsF X)) (F0 m 3 ls [])) := by
    refine xsWh_ind ?_
    intro sg r3 u3 hf ih3 hx3 hk3 H locs ls hP hD hS hl
    obtain ⟨y1, y2⟩ := sg
    replace hf : fX11_copies_v5_L3 mWorld a1 a3 y1 y2 = some u3 := hf
    replace hl : lv_has ls 5 [(0, .ref (xsA X 101)), (1, .int a1), (2, .ref (xsA X 103)), (3, .int a3), (4, .int y1)] := hl
    replace hP : va_P (xsD X) vwCl (wM X mThrown mWorld mImage y2 mEarlier mRemembered mHasImage mIsLaid mOne mTwo mShare mX mY mD mEventX mEventY mEventD mEvents mCrossingOf mBundle mEventOf mDegree mFrom mTo mCrossings mEdges mMet mUpper mLower mTape mTaped mPoint mEnd mBegin mFaultAt mFive mTold mActs mFar mViews mHullX mHullY mEndX mEndY mHeightUp mHeightLow mMeets mMeetsOf Rw) H := hP
    replace hD : va_D (xsF X) (wM X mThrown mWorld mImage y2 mEarlier mRemembered mHasImage mIsLaid mOne mTwo mShare mX mY mD mEventX mEventY mEventD mEvents mCrossingOf mBundle mEventOf mDegree mFrom mTo mCrossings mEdges mMet mUpper mLower mTape mTaped mPoint mEnd mBegin mFaultAt mFive mTold mActs mFar mViews mHullX mHullY mEndX mEndY mHeightUp mHeightLow mMeets mMeetsOf Rw) := hD
    unfold fX11_copies_v5_L3 at hf
    refine lv_iload hx hb dX11_copies_3 (lv_at hl 4 rfl) ?_
    refine lv_bipush (v := (121 : Int32)) hx hb dX11_copies_5 (by decide) ?_
    refine lv_icmp_ge (tgt := 28) hx hb dX11_copies_7 (by decide) (fun c9 => ?_) (fun c9 => ?_)
    · replace hf := xsBr_t c9 hf
      have ez := hx3 _ (Option.some.inj hf).symm
      subst ez
      exact K3 y2 hk3 H locs ls hP hD hS (lv_sub hl [] rfl)
    · replace hf := xsBr_f c9 hf
      refine lv_aload_n hx hb dX11_copies_10 rfl (lv_at hl 2 rfl) ?_
      refine lv_iload_n hx hb dX11_copies_11 rfl (lv_at hl 3 rfl) ?_
      refine lv_iload hx hb dX11_copies_12 (lv_at hl 4 rfl) ?_
      refine lv_iadd hx hb dX11_copies_14 ?_
      refine lv_aload_n hx hb dX11_copies_15 rfl (lv_at hl 0 rfl) ?_
      refine lv_iload_n hx hb dX11_copies_16 rfl (lv_at hl 1 rfl) ?_
      refine lv_iload hx hb dX11_copies_17 (lv_at hl 4 rfl) ?_
      refine lv_iadd hx hb dX11_copies_19 ?_
      replace hf := xsCk_use hf
      obtain ⟨h5, hf⟩ := hf
      refine xl_mWorld C hP h5 dX11_copies_20 ?_
      replace hf := xsCk_use hf
      obtain ⟨h6, hf⟩ := hf
      refine xs_mDraft C hP hD hS h6 dX11_copies_21 (fun f7 ef7 H locs hP hD hS => ?_)
      replace hf := xsLt_use ef7 hf
      obtain ⟨x8, ex8⟩ : ∃ y : Int32, y = y1 + (1 : Int32) := ⟨_, rfl⟩
      replace hf := xsLt_use ex8 hf
      refine lv_iinc (v := x8) (lv' := [(4, .int x8), (0, .ref (xsA X 101)), (1, .int a1), (2, .ref (xsA X 103)), (3, .int a3)]) hx hb dX11_copies_22 hl (k := 4) rfl (by rw [ex8]; rfl) (by decide) rfl (fun ls hl => ?_)
      refine lv_goto (tgt := 3) hx hb dX11_copies_25 (by decide) ?_
      exact ih3 _ (Option.some.inj hf).symm hk3 H locs ls hP hD hS (lv_sub hl [1, 2, 3, 4, 0] rfl)
  exact L3 ((0 : Int32), mDraft) r3 hk30 hf H locs ls hP hD hS (lv_sub hl [1, 2, 3, 4, 0] rfl)
set_option maxRecDepth 100000 in
set_option maxHeartbeats 8000000 in
theorem mX11_isWord (l : Launch) {X : xsX} {mThrown mRemembered mHasImage mIsLaid mEvents mCrossings mEdges mTaped mPoint mEnd mBegin mFaultAt mActs : Int32} {mWorld mImage mDraft mEarlier mOne mTwo mShare mCrossingOf mBundle mEventOf mDegree mFrom mTo mMet mTape mFive mTold mFar mViews mHullX mHullY mEndX mEndY mMeets mMeetsOf : Nat → Int32} {mX mY mD mHeightUp mHeightLow : Int64} {mEventX mEventY mEventD mUpper mLower : Nat → Int64} {Rw : va_W} {ks : Nat} (hks : ks < 6) {out : Int32} (hf : fX11_isWord mTape mPoint mBegin ks = some out) : Met l yX11_isWord (xsWs yX11_isWord cX11_isWord 4 (some .boolean)) { frames := 4, cells := 0, slots := 0, locals := 85 } (xsP X (wM X mThrown mWorld mImage mDraft mEarlier mRemembered mHasImage mIsLaid mOne mTwo mShare mX mY mD mEventX mEventY mEventD mEvents mCrossingOf mBundle mEventOf mDegree mFrom mTo mCrossings mEdges mMet mUpper mLower mTape mTaped mPoint mEnd mBegin mFaultAt mFive mTold mActs mFar mViews mHullX mHullY mEndX mEndY mHeightUp mHeightLow mMeets mMeetsOf Rw) [.ref (xsA X 100), .ref (xsSK X ks)]) (xsQi X out (wM X mThrown mWorld mImage mDraft mEarlier mRemembered mHasImage mIsLaid mOne mTwo mShare mX mY mD mEventX mEventY mEventD mEvents mCrossingOf mBundle mEventOf mDegree mFrom mTo mCrossings mEdges mMet mUpper mLower mTape mTaped mPoint mEnd mBegin mFaultAt mFive mTold mActs mFar mViews mHullX mHullY mEndX mEndY mHeightUp mHeightLow mMeets mMeetsOf Rw)) 0 0 (xsF X) := by
  refine xs_meth RX11 (by decide) rfl (Nat.le_of_ble_eq_true rfl) ?_
  intro p e s m below meth c ls H locs C hP hD hS hr hlk hl
  have hx := C.1
  have hb := C.2.1
  have hl : lv_has ls 4 [(0, .ref (xsA X 100)), (1, .ref (xsSK X ks))] := hl
  obtain ⟨Qq, hQq⟩ : ∃ Qq, Qq = xsQi X out (wM X mThrown mWorld mImage mDraft mEarlier mRemembered mHasImage mIsLaid mOne mTwo mShare mX mY mD mEventX mEventY mEventD mEvents mCrossingOf mBundle mEventOf mDegree mFrom mTo mCrossings mEdges mMet mUpper mLower mTape mTaped mPoint mEnd mBegin mFaultAt mFive mTold mActs mFar mViews mHullX mHullY mEndX mEndY mHeightUp mHeightLow mMeets mMeetsOf Rw) := ⟨_, rfl⟩
  rw [← hQq]
  unfold fX11_isWord at hf
  refine lv_aload_n hx hb dX11_isWord_0 rfl (lv_at hl 0 rfl) ?_
  refine xg_X11_247 C hP dX11_isWord_1 ?_
  refine lv_aload_n hx hb dX11_isWord_4 rfl (lv_at hl 0 rfl) ?_
  refine xg_X11_256 C hP dX11_isWord_5 ?_
  refine lv_isub hx hb dX11_isWord_8 ?_
  refine lv_aload_n hx hb dX11_isWord_9 rfl (lv_at hl 1 rfl) ?_
  refine xs_calli hS (xs_runVx (As := []) C (mJ0_length l (k := ks) hks) w_1558 w_792 w_793 w_116 w_794 hd_J0_length_8abf5 ⟨rfl, rfl, Nat.le_of_ble_eq_true rfl, Nat.le_of_ble_eq_true rfl, Nat.zero_le _, Nat.zero_le _⟩ hP hD hS (vk_recv C.2.2.2.2.2.2.2.2.2.2.2.1 hks hS) hl.1 rfl (Nat.le_of_ble_eq_true rfl) dX11_isWord_10) (fun H locs hP hD hS => ?_)
  have K19 : ∀ (y1 : Int32) (hf : fX11_isWord_J21 mTape mBegin ks y1 = some out) (H : Heap) (locs : List Loc) (ls : Array Slot), va_P (xsD X) vwCl (wM X mThrown mWorld mImage mDraft mEarlier mRemembered mHasImage mIsLaid mOne mTwo mShare mX mY mD mEventX mEventY mEventD mEvents mCrossingOf mBundle mEventOf mDegree mFrom mTo mCrossings mEdges mMet mUpper mLower mTape mTaped mPoint mEnd mBegin mFaultAt mFive mTold mActs mFar mViews mHullX mHullY mEndX mEndY mHeightUp mHeightLow mMeets mMeetsOf Rw) H → va_D (xsF X) (wM X mThrown mWorld mImage mDraft mEarlier mRemembered mHasImage mIsLaid mOne mTwo mShare mX mY mD mEventX mEventY mEventD mEvents mCrossingOf mBundle mEventOf mDegree mFrom mTo mCrossings mEdges mMet mUpper mLower mTape mTaped mPoint mEnd mBegin mFaultAt mFive mTold mActs mFar mViews mHullX mHullY mEndX mEndY mHeightUp mHeightLow mMeets mMeetsOf Rw) → va_S (xsF X) s.heap H locs → lv_has ls 4 [(0, .ref (xsA X 100)), (1, .ref (xsSK X ks))] → W p l e { frames := 4, cells := 0, slots := 0, locals := 85 } s m ([.ref (xsA X 100), .ref (xsSK X ks)] : List Value).toArray below meth c H locs 0 0 (MQ below Qq ([.ref (xsA X 100), .ref (xsSK X ks)] : List Value).toArray s 0 0 (xsF X)) (F0 m 21 ls [.int y1]) := by
    intro y1 hf H locs ls hP hD hS hl
    unfold fX11_isWord_J21 at hf
    refine lv_istore_n (lv' := [(2, .int y1), (0, .ref (xsA X 100)), (1, .ref (xsSK X ks))]) hx hb dX11_isWord_21 rfl hl (by decide) rfl (fun ls hl => ?_)
    refine lv_iconst (v := (0 : Int32)) hx hb dX11_isWord_22 (by decide) ?_
    refine lv_istore_n (lv' := [(3, .int (0 : Int32)), (2, .int y1), (0, .ref (xsA X 100)), (1, .ref (xsSK X ks))]) hx hb dX11_isWord_23 rfl hl (by decide) rfl (fun ls hl => ?_)
    have K4 : ∀ (y5 : Int32) (hf : fX11_isWord_J67 y5 = some out) (H : Heap) (locs : List Loc) (ls : Array Slot), va_P (xsD X) vwCl (wM X mThrown mWorld mImage mDraft mEarlier mRemembered mHasImage mIsLaid mOne mTwo mShare mX mY mD mEventX mEventY mEventD mEvents mCrossingOf mBundle mEventOf mDegree mFrom mTo mCrossings mEdges mMet mUpper mLower mTape mTaped mPoint mEnd mBegin mFaultAt mFive mTold mActs mFar mViews mHullX mHullY mEndX mEndY mHeightUp mHeightLow mMeets mMeetsOf Rw) H → va_D (xsF X) (wM X mThrown mWorld mImage mDraft mEarlier mRemembered mHasImage mIsLaid mOne mTwo mShare mX mY mD mEventX mEventY mEventD mEvents mCrossingOf mBundle mEventOf mDegree mFrom mTo mCrossings mEdges mMet mUpper mLower mTape mTaped mPoint mEnd mBegin mFaultAt mFive mTold mActs mFar mViews mHullX mHullY mEndX mEndY mHeightUp mHeightLow mMeets mMeetsOf Rw) → va_S (xsF X) s.heap H locs → lv_has ls 4 [(2, .int y5)] → W p l e { frames := 4, cells := 0, slots := 0, locals := 85 } s m ([.ref (xsA X 100), .ref (xsSK X ks)] : List Value).toArray below meth c H locs 0 0 (MQ below Qq ([.ref (xsA X 100), .ref (xsSK X ks)] : List Value).toArray s 0 0 (xsF X)) (F0 m 67 ls []) := by
      intro y5 hf H locs ls hP hD hS hl
      unfold fX11_isWord_J67 at hf
      refine lv_iload_n hx hb dX11_isWord_67 rfl (lv_at hl 0 rfl) ?_
      replace hf := xsCk_use hf
      obtain ⟨h6, hf⟩ := hf
      have ho := Option.some.inj hf
      subst ho
      rw [hQq]
      exact xs_zret C hr hlk h6 hP hD hS dX11_isWord_68
    replace hf := xsBd_use hf
    obtain ⟨r4, hk40, hf⟩ := hf
    have L4 : ∀ (sg : Int32 × Int32) (rg : Int32), xsWh (fun s4 => fX11_isWord_L24 mTape mBegin ks s4.1 s4.2) sg = some rg → (fX11_isWord_J67 rg = some out → ∀ (H : Heap) (locs : List Loc) (ls : Array Slot), va_P (xsD X) vwCl (wM X mThrown mWorld mImage mDraft mEarlier mRemembered mHasImage mIsLaid mOne mTwo mShare mX mY mD mEventX mEventY mEventD mEvents mCrossingOf mBundle mEventOf mDegree mFrom mTo mCrossings mEdges mMet mUpper mLower mTape mTaped mPoint mEnd mBegin mFaultAt mFive mTold mActs mFar mViews mHullX mHullY mEndX mEndY mHeightUp mHeightLow mMeets mMeetsOf Rw) H → va_D (xsF X) (wM X mThrown mWorld mImage mDraft mEarlier mRemembered mHasImage mIsLaid mOne mTwo mShare mX mY mD mEventX mEventY mEventD mEvents mCrossingOf mBundle mEventOf mDegree mFrom mTo mCrossings mEdges mMet mUpper mLower mTape mTaped mPoint mEnd mBegin mFaultAt mFive mTold mActs mFar mViews mHullX mHullY mEndX mEndY mHeightUp mHeightLow mMeets mMeetsOf Rw) → va_S (xsF X) s.heap H locs → lv_has ls 4 [(0, .ref (xsA X 100)), (1, .ref (xsSK X ks)), (2, .int sg.1), (3, .int sg.2)] → W p l e { frames := 4, cells := 0, slots := 0, locals := 85 } s m ([.ref (xsA X 100), .ref (xsSK X ks)] : List Value).toArray below meth c H locs 0 0 (MQ below Qq ([.ref (xsA X 100), .ref (xsSK X ks)] : List Value).toArray s 0 0 (xsF X)) (F0 m 24 ls [])) := by
      refine xsWh_ind ?_
      intro sg r4 u4 hf ih4 hx4 hk4 H locs ls hP hD hS hl
      obtain ⟨y2, y3⟩ := sg
      replace hf : fX11_isWord_L24 mTape mBegin ks y2 y3 = some u4 := hf
      replace hl : lv_has ls 4 [(0, .ref (xsA X 100)), (1, .ref (xsSK X ks)), (2, .int y2), (3, .int y3)] := hl
      replace hP : va_P (xsD X) vwCl (wM X mThrown mWorld mImage mDraft mEarlier mRemembered mHasImage mIsLaid mOne mTwo mShare mX mY mD mEventX mEventY mEventD mEvents mCrossingOf mBundle mEventOf mDegree mFrom mTo mCrossings mEdges mMet mUpper mLower mTape mTaped mPoint mEnd mBegin mFaultAt mFive mTold mActs mFar mViews mHullX mHullY mEndX mEndY mHeightUp mHeightLow mMeets mMeetsOf Rw) H := hP
      replace hD : va_D (xsF X) (wM X mThrown mWorld mImage mDraft mEarlier mRemembered mHasImage mIsLaid mOne mTwo mShare mX mY mD mEventX mEventY mEventD mEvents mCrossingOf mBundle mEventOf mDegree mFrom mTo mCrossings mEdges mMet mUpper mLower mTape mTaped mPoint mEnd mBegin mFaultAt mFive mTold mActs mFar mViews mHullX mHullY mEndX mEndY mHeightUp mHeightLow mMeets mMeetsOf Rw) := hD
      unfold fX11_isWord_L24 at hf
      refine lv_iload_n hx hb dX11_isWord_24 rfl (lv_at hl 2 rfl) ?_
      refine lv_if_eq (tgt := 67) hx hb dX11_isWord_25 (by decide) (fun c16 => ?_) (fun c16 => ?_)
      · replace hf := xsBr_t c16 hf
        have ez := hx4 _ (Option.some.inj hf).symm
        subst ez
        exact K4 y2 hk4 H locs ls hP hD hS (lv_sub hl [2] rfl)
      · replace hf := xsBr_f c16 hf
        refine lv_iload_n hx hb dX11_isWord_28 rfl (lv_at hl 3 rfl) ?_
        refine lv_aload_n hx hb dX11_isWord_29 rfl (lv_at hl 1 rfl) ?_
        refine xs_calli hS (xs_runVx (As := []) C (mJ0_length l (k := ks) hks) w_1558 w_792 w_793 w_116 w_794 hd_J0_length_8abf5 ⟨rfl, rfl, Nat.le_of_ble_eq_true rfl, Nat.le_of_ble_eq_true rfl, Nat.zero_le _, Nat.zero_le _⟩ hP hD hS (vk_recv C.2.2.2.2.2.2.2.2.2.2.2.1 hks hS) hl.1 rfl (Nat.le_of_ble_eq_true rfl) dX11_isWord_30) (fun H locs hP hD hS => ?_)
        refine lv_icmp_ge (tgt := 67) hx hb dX11_isWord_33 (by decide) (fun c15 => ?_) (fun c15 => ?_)
        · replace hf := xsBr_t c15 hf
          have ez := hx4 _ (Option.some.inj hf).symm
          subst ez
          exact K4 y2 hk4 H locs ls hP hD hS (lv_sub hl [2] rfl)
        · replace hf := xsBr_f c15 hf
          refine lv_aload_n hx hb dX11_isWord_36 rfl (lv_at hl 0 rfl) ?_
          refine xg_X11_72 C hP dX11_isWord_37 ?_
          refine lv_aload_n hx hb dX11_isWord_40 rfl (lv_at hl 0 rfl) ?_
          refine xg_X11_256 C hP dX11_isWord_41 ?_
          refine lv_iload_n hx hb dX11_isWord_44 rfl (lv_at hl 3 rfl) ?_
          refine lv_iadd hx hb dX11_isWord_45 ?_
          replace hf := xsCk_use hf
          obtain ⟨h7, hf⟩ := hf
          refine xl_mTape C hP h7 dX11_isWord_46 ?_
          refine lv_aload_n hx hb dX11_isWord_47 rfl (lv_at hl 1 rfl) ?_
          refine lv_iload_n hx hb dX11_isWord_48 rfl (lv_at hl 3 rfl) ?_
          replace hf := xsCk_use hf
          obtain ⟨h8, hf⟩ := hf
          refine xs_calli hS (xs_runVx (As := [.int y3]) C (mJ0_charAt l (k := ks) hks h8) w_1559 w_802 w_803 w_116 w_804 hd_J0_charAt_5068e ⟨rfl, rfl, Nat.le_of_ble_eq_true rfl, Nat.le_of_ble_eq_true rfl, Nat.zero_le _, Nat.zero_le _⟩ hP hD hS (vk_recv C.2.2.2.2.2.2.2.2.2.2.2.1 hks hS) hl.1 rfl (Nat.le_of_ble_eq_true rfl) dX11_isWord_49) (fun H locs hP hD hS => ?_)
          have K13 : ∀ (y9 : Int32) (hf : fX11_isWord_J60 y3 y9 = some u4) (H : Heap) (locs : List Loc) (ls : Array Slot), va_P (xsD X) vwCl (wM X mThrown mWorld mImage mDraft mEarlier mRemembered mHasImage mIsLaid mOne mTwo mShare mX mY mD mEventX mEventY mEventD mEvents mCrossingOf mBundle mEventOf mDegree mFrom mTo mCrossings mEdges mMet mUpper mLower mTape mTaped mPoint mEnd mBegin mFaultAt mFive mTold mActs mFar mViews mHullX mHullY mEndX mEndY mHeightUp mHeightLow mMeets mMeetsOf Rw) H → va_D (xsF X) (wM X mThrown mWorld mImage mDraft mEarlier mRemembered mHasImage mIsLaid mOne mTwo mShare mX mY mD mEventX mEventY mEventD mEvents mCrossingOf mBundle mEventOf mDegree mFrom mTo mCrossings mEdges mMet mUpper mLower mTape mTaped mPoint mEnd mBegin mFaultAt mFive mTold mActs mFar mViews mHullX mHullY mEndX mEndY mHeightUp mHeightLow mMeets mMeetsOf Rw) → va_S (xsF X) s.heap H locs → lv_has ls 4 [(0, .ref (xsA X 100)), (1, .ref (xsSK X ks)), (3, .int y3)] → W p l e { frames := 4, cells := 0, slots := 0, locals := 85 } s m ([.ref (xsA X 100), .ref (xsSK X ks)] : List Value).toArray below meth c H locs 0 0 (MQ below Qq ([.ref (xsA X 100), .ref (xsSK X ks)] : List Value).toArray s 0 0 (xsF X)) (F0 m 60 ls [.int y9]) := by
            intro y9 hf H locs ls hP hD hS hl
            unfold fX11_isWord_J60 at hf
            refine lv_istore_n (lv' := [(2, .int y9), (0, .ref (xsA X 100)), (1, .ref (xsSK X ks)), (3, .int y3)]) hx hb dX11_isWord_60 rfl hl (by decide) rfl (fun ls hl => ?_)
            obtain ⟨x10, ex10⟩ : ∃ y : Int32, y = y3 + (1 : Int32) := ⟨_, rfl⟩
            replace hf := xsLt_use ex10 hf
            refine lv_iinc (v := x10) (lv' := [(3, .int x10), (2, .int y9), (0, .ref (xsA X 100)), (1, .ref (xsSK X ks))]) hx hb dX11_isWord_61 hl (k := 3) rfl (by rw [ex10]; rfl) (by decide) rfl (fun ls hl => ?_)
            refine lv_goto (tgt := 24) hx hb dX11_isWord_64 (by decide) ?_
            exact ih4 _ (Option.some.inj hf).symm hk4 H locs ls hP hD hS (lv_sub hl [2, 3, 1, 0] rfl)
          replace hf := xsBd_use hf
          obtain ⟨v11, hf, hk12⟩ := hf
          refine lv_icmp_ne (tgt := 59) hx hb dX11_isWord_52 (by decide) (fun c14 => ?_) (fun c14 => ?_)
          · replace hf := xsBr_f c14 hf
            refine lv_iconst (v := (0 : Int32)) hx hb dX11_isWord_59 (by decide) ?_
            have ev := Option.some.inj hf
            subst ev
            exact K13 (0 : Int32) hk12 H locs ls hP hD hS (lv_sub hl [0, 1, 3] rfl)
          · replace hf := xsBr_t c14 hf
            refine lv_iconst (v := (1 : Int32)) hx hb dX11_isWord_55 (by decide) ?_
            refine lv_goto (tgt := 60) hx hb dX11_isWord_56 (by decide) ?_
            have ev := Option.some.inj hf
            subst ev
            exact K13 (1 : Int32) hk12 H locs ls hP hD hS (lv_sub hl [0, 1, 3] rfl)
    exact L4 (y1, (0 : Int32)) r4 hk40 hf H locs ls hP hD hS (lv_sub hl [2, 3, 1, 0] rfl)
  replace hf := xsBd_use hf
  obtain ⟨v17, hf, hk18⟩ := hf
  refine lv_icmp_ne (tgt := 20) hx hb dX11_isWord_13 (by decide) (fun c20 => ?_) (fun c20 => ?_)
  · replace hf := xsBr_f c20 hf
    refine lv_iconst (v := (0 : Int32)) hx hb dX11_isWord_20 (by decide) ?_
    have ev := Option.some.inj hf
    subst ev
    exact K19 (0 : Int32) hk18 H locs ls hP hD hS (lv_sub hl [0, 1] rfl)
  · replace hf := xsBr_t c20 hf
    refine lv_iconst (v := (1 : Int32)) hx hb dX11_isWord_16 (by decide) ?_
    refine lv_goto (tgt := 21) hx hb dX11_isWord_17 (by decide) ?_
    have ev := Option.some.inj hf
    subst ev
    exact K19 (1 : Int32) hk18 H locs ls hP hD hS (lv_sub hl [0, 1] rfl)
set_option maxRecDepth 100000 in
set_option maxHeartbeats 8000000 in
theorem mX11_passesWord (l : Launch) {X : xsX} {mThrown mRemembered mHasImage mIsLaid mEvents mCrossings mEdges mTaped mPoint mEnd mBegin mFaultAt mActs : Int32} {mWorld mImage mDraft mEarlier mOne mTwo mShare mCrossingOf mBundle mEventOf mDegree mFrom mTo mMet mTape mFive mTold mFar mViews mHullX mHullY mEndX mEndY mMeets mMeetsOf : Nat → Int32} {mX mY mD mHeightUp mHeightLow : Int64} {mEventX mEventY mEventD mUpper mLower : Nat → Int64} {Rw : va_W} {ks : Nat} (hks : ks < 6) {out : Int32 × Int32 × Int32} (hf : fX11_passesWord mTape mPoint mEnd mBegin ks = some out) : Met l yX11_passesWord (xsWs yX11_passesWord cX11_passesWord 2 (some .boolean)) { frames := 5, cells := 0, slots := 0, locals := 108 } (xsP X (wM X mThrown mWorld mImage mDraft mEarlier mRemembered mHasImage mIsLaid mOne mTwo mShare mX mY mD mEventX mEventY mEventD mEvents mCrossingOf mBundle mEventOf mDegree mFrom mTo mCrossings mEdges mMet mUpper mLower mTape mTaped mPoint mEnd mBegin mFaultAt mFive mTold mActs mFar mViews mHullX mHullY mEndX mEndY mHeightUp mHeightLow mMeets mMeetsOf Rw) [.ref (xsA X 100), .ref (xsSK X ks)]) (xsQi X out.1 (wM X mThrown mWorld mImage mDraft mEarlier mRemembered mHasImage mIsLaid mOne mTwo mShare mX mY mD mEventX mEventY mEventD mEvents mCrossingOf mBundle mEventOf mDegree mFrom mTo mCrossings mEdges mMet mUpper mLower mTape mTaped out.2.1 mEnd out.2.2 mFaultAt mFive mTold mActs mFar mViews mHullX mHullY mEndX mEndY mHeightUp mHeightLow mMeets mMeetsOf Rw)) 0 0 (xsF X) := by
  refine xs_meth RX11 (by decide) rfl (Nat.le_of_ble_eq_true rfl) ?_
  intro p e s m below meth c ls H locs C hP hD hS hr hlk hl
  have hx := C.1
  have hb := C.2.1
  have hl : lv_has ls 2 [(0, .ref (xsA X 100)), (1, .ref (xsSK X ks))] := hl
  obtain ⟨Qq, hQq⟩ : ∃ Qq, Qq = xsQi X out.1 (wM X mThrown mWorld mImage mDraft mEarlier mRemembered mHasImage mIsLaid mOne mTwo mShare mX mY mD mEventX mEventY mEventD mEvents mCrossingOf mBundle mEventOf mDegree mFrom mTo mCrossings mEdges mMet mUpper mLower mTape mTaped out.2.1 mEnd out.2.2 mFaultAt mFive mTold mActs mFar mViews mHullX mHullY mEndX mEndY mHeightUp mHeightLow mMeets mMeetsOf Rw) := ⟨_, rfl⟩
  rw [← hQq]
  unfold fX11_passesWord at hf
  refine lv_aload_n hx hb dX11_passesWord_0 rfl (lv_at hl 0 rfl) ?_
  replace hf := xsBd_use hf
  obtain ⟨o1, h2, hf⟩ := hf
  refine xs_callv hS (xs_runV (As := []) C (mX11_letters l  h2) w_1545 w_1547 w_37 w_115 w_1548 hd_X11_letters ⟨rfl, rfl, Nat.le_of_ble_eq_true rfl, Nat.le_of_ble_eq_true rfl, Nat.zero_le _, Nat.zero_le _⟩ hP hD hS lk_X11 rfl hl.1 rfl (Nat.le_of_ble_eq_true rfl) dX11_passesWord_1) (fun H locs hP hD hS => ?_)
  refine lv_aload_n hx hb dX11_passesWord_4 rfl (lv_at hl 0 rfl) ?_
  refine lv_aload_n hx hb dX11_passesWord_5 rfl (lv_at hl 1 rfl) ?_
  replace hf := xsBd_use hf
  obtain ⟨o3, h4, hf⟩ := hf
  refine xs_calli hS (xs_runV (As := [.ref (xsSK X ks)]) C (mX11_isWord l (ks := ks) hks h4) w_1554 w_1556 w_39 w_115 w_1557 hd_X11_isWord ⟨rfl, rfl, Nat.le_of_ble_eq_true rfl, Nat.le_of_ble_eq_true rfl, Nat.zero_le _, Nat.zero_le _⟩ hP hD hS lk_X11 rfl hl.1 rfl (Nat.le_of_ble_eq_true rfl) dX11_passesWord_6) (fun H locs hP hD hS => ?_)
  refine lv_if_eq (tgt := 14) hx hb dX11_passesWord_9 (by decide) (fun c5 => ?_) (fun c5 => ?_)
  · replace hf := xsBr_t c5 hf
    refine lv_aload_n hx hb dX11_passesWord_14 rfl (lv_at hl 0 rfl) ?_
    refine lv_aload_n hx hb dX11_passesWord_15 rfl (lv_at hl 0 rfl) ?_
    refine xg_X11_256 C hP dX11_passesWord_16 ?_
    refine xp_X11_247 C hP hD hS dX11_passesWord_19 (fun H locs hP hD hS => ?_)
    refine lv_iconst (v := (0 : Int32)) hx hb dX11_passesWord_22 (by decide) ?_
    have ho := Option.some.inj hf
    subst ho
    rw [hQq]
    exact xs_zret C hr hlk xsB_0 hP hD hS dX11_passesWord_23
  · replace hf := xsBr_f c5 hf
    refine lv_iconst (v := (1 : Int32)) hx hb dX11_passesWord_12 (by decide) ?_
    have ho := Option.some.inj hf
    subst ho
    rw [hQq]
    exact xs_zret C hr hlk xsB_1 hP hD hS dX11_passesWord_13
set_option maxRecDepth 100000 in
set_option maxHeartbeats 8000000 in
theorem mX11_readsSegment (l : Launch) {X : xsX} {mThrown mRemembered mHasImage mIsLaid mEvents mCrossings mEdges mTaped mPoint mEnd mBegin mFaultAt mActs : Int32} {mWorld mImage mDraft mEarlier mOne mTwo mShare mCrossingOf mBundle mEventOf mDegree mFrom mTo mMet mTape mFive mTold mFar mViews mHullX mHullY mEndX mEndY mMeets mMeetsOf : Nat → Int32} {mX mY mD mHeightUp mHeightLow : Int64} {mEventX mEventY mEventD mUpper mLower : Nat → Int64} {Rw : va_W} {out : Int32 × Int32 × Int32 × (Nat → Int32)} (hf : fX11_readsSegment mTape mPoint mEnd mBegin mTold = some out) : Met l yX11_readsSegment (xsWs yX11_readsSegment cX11_readsSegment 2 (some .boolean)) { frames := 6, cells := 0, slots := 0, locals := 129 } (xsP X (wM X mThrown mWorld mImage mDraft mEarlier mRemembered mHasImage mIsLaid mOne mTwo mShare mX mY mD mEventX mEventY mEventD mEvents mCrossingOf mBundle mEventOf mDegree mFrom mTo mCrossings mEdges mMet mUpper mLower mTape mTaped mPoint mEnd mBegin mFaultAt mFive mTold mActs mFar mViews mHullX mHullY mEndX mEndY mHeightUp mHeightLow mMeets mMeetsOf Rw) [.ref (xsA X 100)]) (xsQi X out.1 (wM X mThrown mWorld mImage mDraft mEarlier mRemembered mHasImage mIsLaid mOne mTwo mShare mX mY mD mEventX mEventY mEventD mEvents mCrossingOf mBundle mEventOf mDegree mFrom mTo mCrossings mEdges mMet mUpper mLower mTape mTaped out.2.1 mEnd out.2.2.1 mFaultAt mFive out.2.2.2 mActs mFar mViews mHullX mHullY mEndX mEndY mHeightUp mHeightLow mMeets mMeetsOf Rw)) 0 0 (xsF X) := by
  refine xs_meth RX11 (by decide) rfl (Nat.le_of_ble_eq_true rfl) ?_
  intro p e s m below meth c ls H locs C hP hD hS hr hlk hl
  have hx := C.1
  have hb := C.2.1
  have hl : lv_has ls 2 [(0, .ref (xsA X 100))] := hl
  obtain ⟨Qq, hQq⟩ : ∃ Qq, Qq = xsQi X out.1 (wM X mThrown mWorld mImage mDraft mEarlier mRemembered mHasImage mIsLaid mOne mTwo mShare mX mY mD mEventX mEventY mEventD mEvents mCrossingOf mBundle mEventOf mDegree mFrom mTo mCrossings mEdges mMet mUpper mLower mTape mTaped out.2.1 mEnd out.2.2.1 mFaultAt mFive out.2.2.2 mActs mFar mViews mHullX mHullY mEndX mEndY mHeightUp mHeightLow mMeets mMeetsOf Rw) := ⟨_, rfl⟩
  rw [← hQq]
  unfold fX11_readsSegment at hf
  refine lv_iconst (v := (0 : Int32)) hx hb dX11_readsSegment_0 (by decide) ?_
  refine lv_istore_n (lv' := [(1, .int (0 : Int32)), (0, .ref (xsA X 100))]) hx hb dX11_readsSegment_1 rfl hl (by decide) rfl (fun ls hl => ?_)
  have K5 : ∀ (y6 : Int32) (y7 : Int32) (y8 : Nat → Int32) (hf : fX11_readsSegment_J23 mTape mEnd y6 y7 y8 = some out) (H : Heap) (locs : List Loc) (ls : Array Slot), va_P (xsD X) vwCl (wM X mThrown mWorld mImage mDraft mEarlier mRemembered mHasImage mIsLaid mOne mTwo mShare mX mY mD mEventX mEventY mEventD mEvents mCrossingOf mBundle mEventOf mDegree mFrom mTo mCrossings mEdges mMet mUpper mLower mTape mTaped y6 mEnd y7 mFaultAt mFive y8 mActs mFar mViews mHullX mHullY mEndX mEndY mHeightUp mHeightLow mMeets mMeetsOf Rw) H → va_D (xsF X) (wM X mThrown mWorld mImage mDraft mEarlier mRemembered mHasImage mIsLaid mOne mTwo mShare mX mY mD mEventX mEventY mEventD mEvents mCrossingOf mBundle mEventOf mDegree mFrom mTo mCrossings mEdges mMet mUpper mLower mTape mTaped y6 mEnd y7 mFaultAt mFive y8 mActs mFar mViews mHullX mHullY mEndX mEndY mHeightUp mHeightLow mMeets mMeetsOf Rw) → va_S (xsF X) s.heap H locs → lv_has ls 2 [(0, .ref (xsA X 100))] → W p l e { frames := 6, cells := 0, slots := 0, locals := 129 } s m ([.ref (xsA X 100)] : List Value).toArray below meth c H locs 0 0 (MQ below Qq ([.ref (xsA X 100)] : List Value).toArray s 0 0 (xsF X)) (F0 m 23 ls []) := by
    intro y6 y7 y8 hf H locs ls hP hD hS hl
    unfold fX11_readsSegment_J23 at hf
    refine lv_aload_n hx hb dX11_readsSegment_23 rfl (lv_at hl 0 rfl) ?_
    refine xg_X11_82 C hP dX11_readsSegment_24 ?_
    refine lv_iconst (v := (4 : Int32)) hx hb dX11_readsSegment_27 (by decide) ?_
    refine lv_iconst (v := (0 : Int32)) hx hb dX11_readsSegment_28 (by decide) ?_
    replace hf := xsCk_use hf
    obtain ⟨h9, hf⟩ := hf
    refine xs_mTold C hP hD hS h9 dX11_readsSegment_29 (fun f10 ef10 H locs hP hD hS => ?_)
    replace hf := xsLt_use ef10 hf
    refine lv_aload_n hx hb dX11_readsSegment_30 rfl (lv_at hl 0 rfl) ?_
    refine xs_ldcSW C C.2.2.2.2.2.2.2.2.2.2.1.2.2.1 dX11_readsSegment_31 ?_
    replace hf := xsBd_use hf
    obtain ⟨o11, h12, hf⟩ := hf
    refine xs_calli hS (xs_runV (As := [.ref (xsSK X 1)]) C (mX11_passesWord l (ks := 1) (by decide) h12) w_1577 w_1579 w_43 w_115 w_1580 hd_X11_passesWord ⟨rfl, rfl, Nat.le_of_ble_eq_true rfl, Nat.le_of_ble_eq_true rfl, Nat.zero_le _, Nat.zero_le _⟩ hP hD hS lk_X11 rfl hl.1 rfl (Nat.le_of_ble_eq_true rfl) dX11_readsSegment_34) (fun H locs hP hD hS => ?_)
    refine lv_if_eq (tgt := 50) hx hb dX11_readsSegment_37 (by decide) (fun c16 => ?_) (fun c16 => ?_)
    · replace hf := xsBr_t c16 hf
      refine lv_iconst (v := (1 : Int32)) hx hb dX11_readsSegment_50 (by decide) ?_
      refine lv_goto (tgt := 55) hx hb dX11_readsSegment_51 (by decide) ?_
      have ho := Option.some.inj hf
      subst ho
      rw [hQq]
      exact xs_zret C hr hlk xsB_1 hP hD hS dX11_readsSegment_55
    · replace hf := xsBr_f c16 hf
      refine lv_aload_n hx hb dX11_readsSegment_40 rfl (lv_at hl 0 rfl) ?_
      refine lv_iconst (v := (4 : Int32)) hx hb dX11_readsSegment_41 (by decide) ?_
      refine lv_iconst (v := (0 : Int32)) hx hb dX11_readsSegment_42 (by decide) ?_
      refine lv_iconst (v := (3 : Int32)) hx hb dX11_readsSegment_43 (by decide) ?_
      replace hf := xsBd_use hf
      obtain ⟨o13, h14, hf⟩ := hf
      refine xs_calli hS (xs_runV (As := [.int (4 : Int32), .int (0 : Int32), .int (3 : Int32)]) C (mX11_reads l  h14) w_1568 w_1570 w_42 w_115 w_1571 hd_X11_reads ⟨rfl, rfl, Nat.le_of_ble_eq_true rfl, Nat.le_of_ble_eq_true rfl, Nat.zero_le _, Nat.zero_le _⟩ hP hD hS lk_X11 rfl hl.1 rfl (Nat.le_of_ble_eq_true rfl) dX11_readsSegment_44) (fun H locs hP hD hS => ?_)
      refine lv_if_eq (tgt := 54) hx hb dX11_readsSegment_47 (by decide) (fun c15 => ?_) (fun c15 => ?_)
      · replace hf := xsBr_t c15 hf
        refine lv_iconst (v := (0 : Int32)) hx hb dX11_readsSegment_54 (by decide) ?_
        have ho := Option.some.inj hf
        subst ho
        rw [hQq]
        exact xs_zret C hr hlk xsB_0 hP hD hS dX11_readsSegment_55
      · replace hf := xsBr_f c15 hf
        refine lv_iconst (v := (1 : Int32)) hx hb dX11_readsSegment_50 (by decide) ?_
        refine lv_goto (tgt := 55) hx hb dX11_readsSegment_51 (by decide) ?_
        have ho := Option.some.inj hf
        subst ho
        rw [hQq]
        exact xs_zret C hr hlk xsB_1 hP hD hS dX11_readsSegment_55
  replace hf := xsBd_use hf
  obtain ⟨r5, hk50, hf⟩ := hf
  have L5 : ∀ (sg : Int32 × Int32 × Int32 × (Nat → Int32)) (rg : (Int32 × Int32 × Int32 × (Nat → Int32)) ⊕ (Int32 × Int32 × (Nat → Int32))), xsWh (fun s5 => fX11_readsSegment_L2 mTape mEnd s5.1 s5.2.1 s5.2.2.1 s5.2.2.2) sg = some rg → (xsSm rg (fun v5 => fX11_readsSegment_J23 mTape mEnd v5.1 v5.2.1 v5.2.2) = some out → ∀ (H : Heap) (locs : List Loc) (ls : Array Slot), va_P (xsD X) vwCl (wM X mThrown mWorld mImage mDraft mEarlier mRemembered mHasImage mIsLaid mOne mTwo mShare mX mY mD mEventX mEventY mEventD mEvents mCrossingOf mBundle mEventOf mDegree mFrom mTo mCrossings mEdges mMet mUpper mLower mTape mTaped sg.2.1 mEnd sg.2.2.1 mFaultAt mFive sg.2.2.2 mActs mFar mViews mHullX mHullY mEndX mEndY mHeightUp mHeightLow mMeets mMeetsOf Rw) H → va_D (xsF X) (wM X mThrown mWorld mImage mDraft mEarlier mRemembered mHasImage mIsLaid mOne mTwo mShare mX mY mD mEventX mEventY mEventD mEvents mCrossingOf mBundle mEventOf mDegree mFrom mTo mCrossings mEdges mMet mUpper mLower mTape mTaped sg.2.1 mEnd sg.2.2.1 mFaultAt mFive sg.2.2.2 mActs mFar mViews mHullX mHullY mEndX mEndY mHeightUp mHeightLow mMeets mMeetsOf Rw) → va_S (xsF X) s.heap H locs → lv_has ls 2 [(0, .ref (xsA X 100)), (1, .int sg.1)] → W p l e { frames := 6, cells := 0, slots := 0, locals := 129 } s m ([.ref (xsA X 100)] : List Value).toArray below meth c H locs 0 0 (MQ below Qq ([.ref (xsA X 100)] : List Value).toArray s 0 0 (xsF X)) (F0 m 2 ls [])) := by
    refine xsWh_ind ?_
    intro sg r5 u5 hf ih5 hx5 hk5 H locs ls hP hD hS hl
    obtain ⟨y1, y2, y3, y4⟩ := sg
    replace hf : fX11_readsSegment_L2 mTape mEnd y1 y2 y3 y4 = some u5 := hf
    replace hl : lv_has ls 2 [(0, .ref (xsA X 100)), (1, .int y1)] := hl
    replace hP : va_P (xsD X) vwCl (wM X mThrown mWorld mImage mDraft mEarlier mRemembered mHasImage mIsLaid mOne mTwo mShare mX mY mD mEventX mEventY mEventD mEvents mCrossingOf mBundle mEventOf mDegree mFrom mTo mCrossings mEdges mMet mUpper mLower mTape mTaped y2 mEnd y3 mFaultAt mFive y4 mActs mFar mViews mHullX mHullY mEndX mEndY mHeightUp mHeightLow mMeets mMeetsOf Rw) H := hP
    replace hD : va_D (xsF X) (wM X mThrown mWorld mImage mDraft mEarlier mRemembered mHasImage mIsLaid mOne mTwo mShare mX mY mD mEventX mEventY mEventD mEvents mCrossingOf mBundle mEventOf mDegree mFrom mTo mCrossings mEdges mMet mUpper mLower mTape mTaped y2 mEnd y3 mFaultAt mFive y4 mActs mFar mViews mHullX mHullY mEndX mEndY mHeightUp mHeightLow mMeets mMeetsOf Rw) := hD
    unfold fX11_readsSegment_L2 at hf
    refine lv_iload_n hx hb dX11_readsSegment_2 rfl (lv_at hl 1 rfl) ?_
    refine lv_iconst (v := (4 : Int32)) hx hb dX11_readsSegment_3 (by decide) ?_
    refine lv_icmp_ge (tgt := 23) hx hb dX11_readsSegment_4 (by decide) (fun c21 => ?_) (fun c21 => ?_)
    · replace hf := xsBr_t c21 hf
      have ez := hx5 _ (Option.some.inj hf).symm
      subst ez
      exact K5 y2 y3 y4 hk5 H locs ls hP hD hS (lv_sub hl [0] rfl)
    · replace hf := xsBr_f c21 hf
      refine lv_aload_n hx hb dX11_readsSegment_7 rfl (lv_at hl 0 rfl) ?_
      refine lv_iload_n hx hb dX11_readsSegment_8 rfl (lv_at hl 1 rfl) ?_
      replace hf := xsBd_use hf
      obtain ⟨o17, h18, hf⟩ := hf
      refine xs_calli hS (xs_runV (As := [.int y1]) C (mX11_readsSigned l  h18) w_1564 w_1566 w_41 w_115 w_1567 hd_X11_readsSigned ⟨rfl, rfl, Nat.le_of_ble_eq_true rfl, Nat.le_of_ble_eq_true rfl, Nat.zero_le _, Nat.zero_le _⟩ hP hD hS lk_X11 rfl hl.1 rfl (Nat.le_of_ble_eq_true rfl) dX11_readsSegment_9) (fun H locs hP hD hS => ?_)
      refine lv_if_ne (tgt := 17) hx hb dX11_readsSegment_12 (by decide) (fun c20 => ?_) (fun c20 => ?_)
      · replace hf := xsBr_f c20 hf
        obtain ⟨x19, ex19⟩ : ∃ y : Int32, y = y1 + (1 : Int32) := ⟨_, rfl⟩
        replace hf := xsLt_use ex19 hf
        refine lv_iinc (v := x19) (lv' := [(1, .int x19), (0, .ref (xsA X 100))]) hx hb dX11_readsSegment_17 hl (k := 1) rfl (by rw [ex19]; rfl) (by decide) rfl (fun ls hl => ?_)
        refine lv_goto (tgt := 2) hx hb dX11_readsSegment_20 (by decide) ?_
        exact ih5 _ (Option.some.inj hf).symm hk5 H locs ls hP hD hS (lv_sub hl [1, 0] rfl)
      · replace hf := xsBr_t c20 hf
        refine lv_iconst (v := (0 : Int32)) hx hb dX11_readsSegment_15 (by decide) ?_
        have ez := hx5 _ (Option.some.inj hf).symm
        subst ez
        have hf := hk5
        have ho := Option.some.inj hf
        subst ho
        rw [hQq]
        exact xs_zret C hr hlk xsB_0 hP hD hS dX11_readsSegment_16
  exact L5 ((0 : Int32), mPoint, mBegin, mTold) r5 hk50 hf H locs ls hP hD hS (lv_sub hl [1, 0] rfl)
set_option maxRecDepth 100000 in
set_option maxHeartbeats 8000000 in
theorem mX11_readAct (l : Launch) {X : xsX} {mThrown mRemembered mHasImage mIsLaid mEvents mCrossings mEdges mTaped mPoint mEnd mBegin mFaultAt mActs : Int32} {mWorld mImage mDraft mEarlier mOne mTwo mShare mCrossingOf mBundle mEventOf mDegree mFrom mTo mMet mTape mFive mTold mFar mViews mHullX mHullY mEndX mEndY mMeets mMeetsOf : Nat → Int32} {mX mY mD mHeightUp mHeightLow : Int64} {mEventX mEventY mEventD mUpper mLower : Nat → Int64} {Rw : va_W} {out : Int32 × (Nat → Int32) × Int32 × Int32 × Int32 × (Nat → Int32)} (hf : fX11_readAct mWorld mIsLaid mTape mPoint mEnd mBegin mTold = some out) : Met l yX11_readAct (xsWs yX11_readAct cX11_readAct 2 (some .boolean)) { frames := 7, cells := 0, slots := 0, locals := 150 } (xsP X (wM X mThrown mWorld mImage mDraft mEarlier mRemembered mHasImage mIsLaid mOne mTwo mShare mX mY mD mEventX mEventY mEventD mEvents mCrossingOf mBundle mEventOf mDegree mFrom mTo mCrossings mEdges mMet mUpper mLower mTape mTaped mPoint mEnd mBegin mFaultAt mFive mTold mActs mFar mViews mHullX mHullY mEndX mEndY mHeightUp mHeightLow mMeets mMeetsOf Rw) [.ref (xsA X 100)]) (xsQi X out.1 (wM X mThrown out.2.1 mImage mDraft mEarlier mRemembered mHasImage out.2.2.1 mOne mTwo mShare mX mY mD mEventX mEventY mEventD mEvents mCrossingOf mBundle mEventOf mDegree mFrom mTo mCrossings mEdges mMet mUpper mLower mTape mTaped out.2.2.2.1 mEnd out.2.2.2.2.1 mFaultAt mFive out.2.2.2.2.2 mActs mFar mViews mHullX mHullY mEndX mEndY mHeightUp mHeightLow mMeets mMeetsOf Rw)) 0 0 (xsF X) := by
  refine xs_meth RX11 (by decide) rfl (Nat.le_of_ble_eq_true rfl) ?_
  intro p e s m below meth c ls H locs C hP hD hS hr hlk hl
  have hx := C.1
  have hb := C.2.1
  have hl : lv_has ls 2 [(0, .ref (xsA X 100))] := hl
  obtain ⟨Qq, hQq⟩ : ∃ Qq, Qq = xsQi X out.1 (wM X mThrown out.2.1 mImage mDraft mEarlier mRemembered mHasImage out.2.2.1 mOne mTwo mShare mX mY mD mEventX mEventY mEventD mEvents mCrossingOf mBundle mEventOf mDegree mFrom mTo mCrossings mEdges mMet mUpper mLower mTape mTaped out.2.2.2.1 mEnd out.2.2.2.2.1 mFaultAt mFive out.2.2.2.2.2 mActs mFar mViews mHullX mHullY mEndX mEndY mHeightUp mHeightLow mMeets mMeetsOf Rw) := ⟨_, rfl⟩
  rw [← hQq]
  unfold fX11_readAct at hf
  refine lv_aload_n hx hb dX11_readAct_0 rfl (lv_at hl 0 rfl) ?_
  replace hf := xsBd_use hf
  obtain ⟨o1, h2, hf⟩ := hf
  refine xs_callv hS (xs_runV (As := []) C (mX11_letters l  h2) w_1545 w_1547 w_37 w_115 w_1548 hd_X11_letters ⟨rfl, rfl, Nat.le_of_ble_eq_true rfl, Nat.le_of_ble_eq_true rfl, Nat.zero_le _, Nat.zero_le _⟩ hP hD hS lk_X11 rfl hl.1 rfl (Nat.le_of_ble_eq_true rfl) dX11_readAct_1) (fun H locs hP hD hS => ?_)
  refine lv_aload_n hx hb dX11_readAct_4 rfl (lv_at hl 0 rfl) ?_
  refine xg_X11_256 C hP dX11_readAct_5 ?_
  refine lv_istore_n (lv' := [(1, .int o1.2), (0, .ref (xsA X 100))]) hx hb dX11_readAct_8 rfl hl (by decide) rfl (fun ls hl => ?_)
  refine lv_aload_n hx hb dX11_readAct_9 rfl (lv_at hl 1 rfl) ?_
  refine xs_ldcSW C C.2.2.2.2.2.2.2.2.2.2.1.2.1 dX11_readAct_10 ?_
  replace hf := xsBd_use hf
  obtain ⟨o3, h4, hf⟩ := hf
  refine xs_calli hS (xs_runV (As := [.ref (xsSK X 0)]) C (mX11_isWord l (ks := 0) (by decide) h4) w_1554 w_1556 w_39 w_115 w_1557 hd_X11_isWord ⟨rfl, rfl, Nat.le_of_ble_eq_true rfl, Nat.le_of_ble_eq_true rfl, Nat.zero_le _, Nat.zero_le _⟩ hP hD hS lk_X11 rfl hl.1 rfl (Nat.le_of_ble_eq_true rfl) dX11_readAct_13) (fun H locs hP hD hS => ?_)
  refine lv_if_eq (tgt := 80) hx hb dX11_readAct_16 (by decide) (fun c83 => ?_) (fun c83 => ?_)
  · replace hf := xsBr_t c83 hf
    refine lv_aload_n hx hb dX11_readAct_80 rfl (lv_at hl 1 rfl) ?_
    refine xs_ldcSW C C.2.2.2.2.2.2.2.2.2.2.1.2.2.2.1 dX11_readAct_81 ?_
    replace hf := xsBd_use hf
    obtain ⟨o5, h6, hf⟩ := hf
    refine xs_calli hS (xs_runV (As := [.ref (xsSK X 2)]) C (mX11_isWord l (ks := 2) (by decide) h6) w_1554 w_1556 w_39 w_115 w_1557 hd_X11_isWord ⟨rfl, rfl, Nat.le_of_ble_eq_true rfl, Nat.le_of_ble_eq_true rfl, Nat.zero_le _, Nat.zero_le _⟩ hP hD hS lk_X11 rfl hl.1 rfl (Nat.le_of_ble_eq_true rfl) dX11_readAct_84) (fun H locs hP hD hS => ?_)
    refine lv_if_eq (tgt := 119) hx hb dX11_readAct_87 (by decide) (fun c66 => ?_) (fun c66 => ?_)
    · replace hf := xsBr_t c66 hf
      refine lv_aload_n hx hb dX11_readAct_119 rfl (lv_at hl 1 rfl) ?_
      refine xs_ldcSW C C.2.2.2.2.2.2.2.2.2.2.1.2.2.2.2.1 dX11_readAct_120 ?_
      replace hf := xsBd_use hf
      obtain ⟨o7, h8, hf⟩ := hf
      refine xs_calli hS (xs_runV (As := [.ref (xsSK X 3)]) C (mX11_isWord l (ks := 3) (by decide) h8) w_1554 w_1556 w_39 w_115 w_1557 hd_X11_isWord ⟨rfl, rfl, Nat.le_of_ble_eq_true rfl, Nat.le_of_ble_eq_true rfl, Nat.zero_le _, Nat.zero_le _⟩ hP hD hS lk_X11 rfl hl.1 rfl (Nat.le_of_ble_eq_true rfl) dX11_readAct_123) (fun H locs hP hD hS => ?_)
      refine lv_if_eq (tgt := 227) hx hb dX11_readAct_126 (by decide) (fun c57 => ?_) (fun c57 => ?_)
      · replace hf := xsBr_t c57 hf
        refine lv_aload_n hx hb dX11_readAct_227 rfl (lv_at hl 1 rfl) ?_
        refine xs_ldcSW C C.2.2.2.2.2.2.2.2.2.2.1.2.2.1 dX11_readAct_228 ?_
        replace hf := xsBd_use hf
        obtain ⟨o9, h10, hf⟩ := hf
        refine xs_calli hS (xs_runV (As := [.ref (xsSK X 1)]) C (mX11_isWord l (ks := 1) (by decide) h10) w_1554 w_1556 w_39 w_115 w_1557 hd_X11_isWord ⟨rfl, rfl, Nat.le_of_ble_eq_true rfl, Nat.le_of_ble_eq_true rfl, Nat.zero_le _, Nat.zero_le _⟩ hP hD hS lk_X11 rfl hl.1 rfl (Nat.le_of_ble_eq_true rfl) dX11_readAct_231) (fun H locs hP hD hS => ?_)
        refine lv_if_eq (tgt := 289) hx hb dX11_readAct_234 (by decide) (fun c28 => ?_) (fun c28 => ?_)
        · replace hf := xsBr_t c28 hf
          refine lv_aload_n hx hb dX11_readAct_289 rfl (lv_at hl 1 rfl) ?_
          refine xs_ldcSW C C.2.2.2.2.2.2.2.2.2.2.1.2.2.2.2.2.2 dX11_readAct_290 ?_
          replace hf := xsBd_use hf
          obtain ⟨o11, h12, hf⟩ := hf
          refine xs_calli hS (xs_runV (As := [.ref (xsSK X 5)]) C (mX11_isWord l (ks := 5) (by decide) h12) w_1554 w_1556 w_39 w_115 w_1557 hd_X11_isWord ⟨rfl, rfl, Nat.le_of_ble_eq_true rfl, Nat.le_of_ble_eq_true rfl, Nat.zero_le _, Nat.zero_le _⟩ hP hD hS lk_X11 rfl hl.1 rfl (Nat.le_of_ble_eq_true rfl) dX11_readAct_293) (fun H locs hP hD hS => ?_)
          refine lv_if_ne (tgt := 301) hx hb dX11_readAct_296 (by decide) (fun c15 => ?_) (fun c15 => ?_)
          · replace hf := xsBr_f c15 hf
            refine lv_aload_n hx hb dX11_readAct_301 rfl (lv_at hl 1 rfl) ?_
            replace hf := xsBd_use hf
            obtain ⟨o13, h14, hf⟩ := hf
            refine xs_callv hS (xs_runV (As := []) C (mX11_turns l  h14) w_1619 w_1621 w_52 w_115 w_1622 hd_X11_turns ⟨rfl, rfl, Nat.le_of_ble_eq_true rfl, Nat.le_of_ble_eq_true rfl, Nat.zero_le _, Nat.zero_le _⟩ hP hD hS lk_X11 rfl hl.1 rfl (Nat.le_of_ble_eq_true rfl) dX11_readAct_302) (fun H locs hP hD hS => ?_)
            refine lv_iconst (v := (1 : Int32)) hx hb dX11_readAct_305 (by decide) ?_
            have ho := Option.some.inj hf
            subst ho
            rw [hQq]
            exact xs_zret C hr hlk xsB_1 hP hD hS dX11_readAct_306
          · replace hf := xsBr_t c15 hf
            refine lv_iconst (v := (0 : Int32)) hx hb dX11_readAct_299 (by decide) ?_
            have ho := Option.some.inj hf
            subst ho
            rw [hQq]
            exact xs_zret C hr hlk xsB_0 hP hD hS dX11_readAct_300
        · replace hf := xsBr_f c28 hf
          refine lv_aload_n hx hb dX11_readAct_237 rfl (lv_at hl 1 rfl) ?_
          refine lv_iconst (v := (0 : Int32)) hx hb dX11_readAct_238 (by decide) ?_
          refine lv_iconst (v := (0 : Int32)) hx hb dX11_readAct_239 (by decide) ?_
          refine lv_aload_n hx hb dX11_readAct_240 rfl (lv_at hl 1 rfl) ?_
          replace hf := xsBd_use hf
          obtain ⟨o16, h17, hf⟩ := hf
          refine xs_calli hS (xs_runV (As := []) C (mX11_many l  h17) w_1581 w_1583 w_44 w_115 w_1584 hd_X11_many ⟨rfl, rfl, Nat.le_of_ble_eq_true rfl, Nat.le_of_ble_eq_true rfl, Nat.zero_le _, Nat.zero_le _⟩ hP hD hS lk_X11 rfl hl.1 rfl (Nat.le_of_ble_eq_true rfl) dX11_readAct_241) (fun H locs hP hD hS => ?_)
          refine lv_iconst (v := (1 : Int32)) hx hb dX11_readAct_244 (by decide) ?_
          refine lv_isub hx hb dX11_readAct_245 ?_
          replace hf := xsBd_use hf
          obtain ⟨o18, h19, hf⟩ := hf
          refine xs_calli hS (xs_runV (As := [.int (0 : Int32), .int (0 : Int32), .int (o16 - (1 : Int32))]) C (mX11_reads l  h19) w_1568 w_1570 w_42 w_115 w_1571 hd_X11_reads ⟨rfl, rfl, Nat.le_of_ble_eq_true rfl, Nat.le_of_ble_eq_true rfl, Nat.zero_le _, Nat.zero_le _⟩ hP hD hS lk_X11 rfl hl.1 rfl (Nat.le_of_ble_eq_true rfl) dX11_readAct_246) (fun H locs hP hD hS => ?_)
          refine lv_if_eq (tgt := 262) hx hb dX11_readAct_249 (by decide) (fun c27 => ?_) (fun c27 => ?_)
          · replace hf := xsBr_t c27 hf
            refine lv_iconst (v := (0 : Int32)) hx hb dX11_readAct_262 (by decide) ?_
            have ho := Option.some.inj hf
            subst ho
            rw [hQq]
            exact xs_zret C hr hlk xsB_0 hP hD hS dX11_readAct_263
          · replace hf := xsBr_f c27 hf
            refine lv_aload_n hx hb dX11_readAct_252 rfl (lv_at hl 1 rfl) ?_
            refine lv_iconst (v := (1 : Int32)) hx hb dX11_readAct_253 (by decide) ?_
            refine lv_iconst (v := (0 : Int32)) hx hb dX11_readAct_254 (by decide) ?_
            refine lv_iconst (v := (3 : Int32)) hx hb dX11_readAct_255 (by decide) ?_
            replace hf := xsBd_use hf
            obtain ⟨o20, h21, hf⟩ := hf
            refine xs_calli hS (xs_runV (As := [.int (1 : Int32), .int (0 : Int32), .int (3 : Int32)]) C (mX11_reads l  h21) w_1568 w_1570 w_42 w_115 w_1571 hd_X11_reads ⟨rfl, rfl, Nat.le_of_ble_eq_true rfl, Nat.le_of_ble_eq_true rfl, Nat.zero_le _, Nat.zero_le _⟩ hP hD hS lk_X11 rfl hl.1 rfl (Nat.le_of_ble_eq_true rfl) dX11_readAct_256) (fun H locs hP hD hS => ?_)
            refine lv_if_ne (tgt := 264) hx hb dX11_readAct_259 (by decide) (fun c26 => ?_) (fun c26 => ?_)
            · replace hf := xsBr_f c26 hf
              refine lv_aload_n hx hb dX11_readAct_264 rfl (lv_at hl 1 rfl) ?_
              refine xg_X11_13 C hP dX11_readAct_265 ?_
              refine lv_iconst (v := (1 : Int32)) hx hb dX11_readAct_268 (by decide) ?_
              refine lv_iconst (v := (5 : Int32)) hx hb dX11_readAct_269 (by decide) ?_
              refine lv_aload_n hx hb dX11_readAct_270 rfl (lv_at hl 1 rfl) ?_
              refine xg_X11_82 C hP dX11_readAct_271 ?_
              refine lv_iconst (v := (0 : Int32)) hx hb dX11_readAct_274 (by decide) ?_
              replace hf := xsCk_use hf
              obtain ⟨h22, hf⟩ := hf
              refine xl_mTold C hP h22 dX11_readAct_275 ?_
              refine lv_imul hx hb dX11_readAct_276 ?_
              refine lv_iadd hx hb dX11_readAct_277 ?_
              refine lv_iconst (v := (4 : Int32)) hx hb dX11_readAct_278 (by decide) ?_
              refine lv_iadd hx hb dX11_readAct_279 ?_
              refine lv_aload_n hx hb dX11_readAct_280 rfl (lv_at hl 1 rfl) ?_
              refine xg_X11_82 C hP dX11_readAct_281 ?_
              refine lv_iconst (v := (1 : Int32)) hx hb dX11_readAct_284 (by decide) ?_
              replace hf := xsCk_use hf
              obtain ⟨h23, hf⟩ := hf
              refine xl_mTold C hP h23 dX11_readAct_285 ?_
              replace hf := xsCk_use hf
              obtain ⟨h24, hf⟩ := hf
              refine xs_mWorld C hP hD hS h24 dX11_readAct_286 (fun f25 ef25 H locs hP hD hS => ?_)
              replace hf := xsLt_use ef25 hf
              refine lv_iconst (v := (1 : Int32)) hx hb dX11_readAct_287 (by decide) ?_
              have ho := Option.some.inj hf
              subst ho
              rw [hQq]
              exact xs_zret C hr hlk xsB_1 hP hD hS dX11_readAct_288
            · replace hf := xsBr_t c26 hf
              refine lv_iconst (v := (0 : Int32)) hx hb dX11_readAct_262 (by decide) ?_
              have ho := Option.some.inj hf
              subst ho
              rw [hQq]
              exact xs_zret C hr hlk xsB_0 hP hD hS dX11_readAct_263
      · replace hf := xsBr_f c57 hf
        refine lv_aload_n hx hb dX11_readAct_129 rfl (lv_at hl 1 rfl) ?_
        refine lv_iconst (v := (2 : Int32)) hx hb dX11_readAct_130 (by decide) ?_
        refine lv_iconst (v := (0 : Int32)) hx hb dX11_readAct_131 (by decide) ?_
        refine lv_aload_n hx hb dX11_readAct_132 rfl (lv_at hl 1 rfl) ?_
        replace hf := xsBd_use hf
        obtain ⟨o29, h30, hf⟩ := hf
        refine xs_calli hS (xs_runV (As := []) C (mX11_many l  h30) w_1581 w_1583 w_44 w_115 w_1584 hd_X11_many ⟨rfl, rfl, Nat.le_of_ble_eq_true rfl, Nat.le_of_ble_eq_true rfl, Nat.zero_le _, Nat.zero_le _⟩ hP hD hS lk_X11 rfl hl.1 rfl (Nat.le_of_ble_eq_true rfl) dX11_readAct_133) (fun H locs hP hD hS => ?_)
        refine lv_iconst (v := (1 : Int32)) hx hb dX11_readAct_136 (by decide) ?_
        refine lv_isub hx hb dX11_readAct_137 ?_
        replace hf := xsBd_use hf
        obtain ⟨o31, h32, hf⟩ := hf
        refine xs_calli hS (xs_runV (As := [.int (2 : Int32), .int (0 : Int32), .int (o29 - (1 : Int32))]) C (mX11_reads l  h32) w_1568 w_1570 w_42 w_115 w_1571 hd_X11_reads ⟨rfl, rfl, Nat.le_of_ble_eq_true rfl, Nat.le_of_ble_eq_true rfl, Nat.zero_le _, Nat.zero_le _⟩ hP hD hS lk_X11 rfl hl.1 rfl (Nat.le_of_ble_eq_true rfl) dX11_readAct_138) (fun H locs hP hD hS => ?_)
        refine lv_if_eq (tgt := 170) hx hb dX11_readAct_141 (by decide) (fun c56 => ?_) (fun c56 => ?_)
        · replace hf := xsBr_t c56 hf
          refine lv_iconst (v := (0 : Int32)) hx hb dX11_readAct_170 (by decide) ?_
          have ho := Option.some.inj hf
          subst ho
          rw [hQq]
          exact xs_zret C hr hlk xsB_0 hP hD hS dX11_readAct_171
        · replace hf := xsBr_f c56 hf
          refine lv_aload_n hx hb dX11_readAct_144 rfl (lv_at hl 1 rfl) ?_
          refine xs_ldcSW C C.2.2.2.2.2.2.2.2.2.2.1.2.2.2.2.2.1 dX11_readAct_145 ?_
          replace hf := xsBd_use hf
          obtain ⟨o33, h34, hf⟩ := hf
          refine xs_calli hS (xs_runV (As := [.ref (xsSK X 4)]) C (mX11_passesWord l (ks := 4) (by decide) h34) w_1577 w_1579 w_43 w_115 w_1580 hd_X11_passesWord ⟨rfl, rfl, Nat.le_of_ble_eq_true rfl, Nat.le_of_ble_eq_true rfl, Nat.zero_le _, Nat.zero_le _⟩ hP hD hS lk_X11 rfl hl.1 rfl (Nat.le_of_ble_eq_true rfl) dX11_readAct_148) (fun H locs hP hD hS => ?_)
          refine lv_if_eq (tgt := 170) hx hb dX11_readAct_151 (by decide) (fun c55 => ?_) (fun c55 => ?_)
          · replace hf := xsBr_t c55 hf
            refine lv_iconst (v := (0 : Int32)) hx hb dX11_readAct_170 (by decide) ?_
            have ho := Option.some.inj hf
            subst ho
            rw [hQq]
            exact xs_zret C hr hlk xsB_0 hP hD hS dX11_readAct_171
          · replace hf := xsBr_f c55 hf
            refine lv_aload_n hx hb dX11_readAct_154 rfl (lv_at hl 1 rfl) ?_
            refine lv_iconst (v := (0 : Int32)) hx hb dX11_readAct_155 (by decide) ?_
            replace hf := xsBd_use hf
            obtain ⟨o35, h36, hf⟩ := hf
            refine xs_calli hS (xs_runV (As := [.int (0 : Int32)]) C (mX11_readsSigned l  h36) w_1564 w_1566 w_41 w_115 w_1567 hd_X11_readsSigned ⟨rfl, rfl, Nat.le_of_ble_eq_true rfl, Nat.le_of_ble_eq_true rfl, Nat.zero_le _, Nat.zero_le _⟩ hP hD hS lk_X11 rfl hl.1 rfl (Nat.le_of_ble_eq_true rfl) dX11_readAct_156) (fun H locs hP hD hS => ?_)
            refine lv_if_eq (tgt := 170) hx hb dX11_readAct_159 (by decide) (fun c54 => ?_) (fun c54 => ?_)
            · replace hf := xsBr_t c54 hf
              refine lv_iconst (v := (0 : Int32)) hx hb dX11_readAct_170 (by decide) ?_
              have ho := Option.some.inj hf
              subst ho
              rw [hQq]
              exact xs_zret C hr hlk xsB_0 hP hD hS dX11_readAct_171
            · replace hf := xsBr_f c54 hf
              refine lv_aload_n hx hb dX11_readAct_162 rfl (lv_at hl 1 rfl) ?_
              refine lv_iconst (v := (1 : Int32)) hx hb dX11_readAct_163 (by decide) ?_
              replace hf := xsBd_use hf
              obtain ⟨o37, h38, hf⟩ := hf
              refine xs_calli hS (xs_runV (As := [.int (1 : Int32)]) C (mX11_readsSigned l  h38) w_1564 w_1566 w_41 w_115 w_1567 hd_X11_readsSigned ⟨rfl, rfl, Nat.le_of_ble_eq_true rfl, Nat.le_of_ble_eq_true rfl, Nat.zero_le _, Nat.zero_le _⟩ hP hD hS lk_X11 rfl hl.1 rfl (Nat.le_of_ble_eq_true rfl) dX11_readAct_164) (fun H locs hP hD hS => ?_)
              refine lv_if_ne (tgt := 172) hx hb dX11_readAct_167 (by decide) (fun c53 => ?_) (fun c53 => ?_)
              · replace hf := xsBr_f c53 hf
                refine lv_aload_n hx hb dX11_readAct_172 rfl (lv_at hl 1 rfl) ?_
                refine lv_aload_n hx hb dX11_readAct_173 rfl (lv_at hl 1 rfl) ?_
                refine xg_X11_82 C hP dX11_readAct_174 ?_
                refine lv_iconst (v := (2 : Int32)) hx hb dX11_readAct_177 (by decide) ?_
                replace hf := xsCk_use hf
                obtain ⟨h39, hf⟩ := hf
                refine xl_mTold C hP h39 dX11_readAct_178 ?_
                refine lv_aload_n hx hb dX11_readAct_179 rfl (lv_at hl 1 rfl) ?_
                refine xg_X11_82 C hP dX11_readAct_180 ?_
                refine lv_iconst (v := (0 : Int32)) hx hb dX11_readAct_183 (by decide) ?_
                replace hf := xsCk_use hf
                obtain ⟨h40, hf⟩ := hf
                refine xl_mTold C hP h40 dX11_readAct_184 ?_
                refine lv_aload_n hx hb dX11_readAct_185 rfl (lv_at hl 1 rfl) ?_
                refine xg_X11_82 C hP dX11_readAct_186 ?_
                refine lv_iconst (v := (1 : Int32)) hx hb dX11_readAct_189 (by decide) ?_
                replace hf := xsCk_use hf
                obtain ⟨h41, hf⟩ := hf
                refine xl_mTold C hP h41 dX11_readAct_190 ?_
                replace hf := xsBd_use hf
                obtain ⟨o42, h43, hf⟩ := hf
                refine xs_calli hS (xs_runV (As := [.int (o37.2.2.2 (2 : Int32).toNatClampNeg), .int (o37.2.2.2 (0 : Int32).toNatClampNeg), .int (o37.2.2.2 (1 : Int32).toNatClampNeg)]) C (mX11_canMove l  h43) w_1604 w_1606 w_49 w_115 w_1607 hd_X11_canMove ⟨rfl, rfl, Nat.le_of_ble_eq_true rfl, Nat.le_of_ble_eq_true rfl, Nat.zero_le _, Nat.zero_le _⟩ hP hD hS lk_X11 rfl hl.1 rfl (Nat.le_of_ble_eq_true rfl) dX11_readAct_191) (fun H locs hP hD hS => ?_)
                refine lv_if_ne (tgt := 203) hx hb dX11_readAct_194 (by decide) (fun c52 => ?_) (fun c52 => ?_)
                · replace hf := xsBr_f c52 hf
                  refine lv_aload_n hx hb dX11_readAct_203 rfl (lv_at hl 1 rfl) ?_
                  refine lv_aload_n hx hb dX11_readAct_204 rfl (lv_at hl 1 rfl) ?_
                  refine xg_X11_82 C hP dX11_readAct_205 ?_
                  refine lv_iconst (v := (2 : Int32)) hx hb dX11_readAct_208 (by decide) ?_
                  replace hf := xsCk_use hf
                  obtain ⟨h44, hf⟩ := hf
                  refine xl_mTold C hP h44 dX11_readAct_209 ?_
                  refine lv_aload_n hx hb dX11_readAct_210 rfl (lv_at hl 1 rfl) ?_
                  refine xg_X11_82 C hP dX11_readAct_211 ?_
                  refine lv_iconst (v := (0 : Int32)) hx hb dX11_readAct_214 (by decide) ?_
                  replace hf := xsCk_use hf
                  obtain ⟨h45, hf⟩ := hf
                  refine xl_mTold C hP h45 dX11_readAct_215 ?_
                  refine lv_aload_n hx hb dX11_readAct_216 rfl (lv_at hl 1 rfl) ?_
                  refine xg_X11_82 C hP dX11_readAct_217 ?_
                  refine lv_iconst (v := (1 : Int32)) hx hb dX11_readAct_220 (by decide) ?_
                  replace hf := xsCk_use hf
                  obtain ⟨h46, hf⟩ := hf
                  refine xl_mTold C hP h46 dX11_readAct_221 ?_
                  replace hf := xsBd_use hf
                  obtain ⟨o47, h48, hf⟩ := hf
                  refine xs_callv hS (xs_runV (As := [.int (o37.2.2.2 (2 : Int32).toNatClampNeg), .int (o37.2.2.2 (0 : Int32).toNatClampNeg), .int (o37.2.2.2 (1 : Int32).toNatClampNeg)]) C (mX11_moves l  h48) w_1614 w_1616 w_51 w_115 w_1617 hd_X11_moves ⟨rfl, rfl, Nat.le_of_ble_eq_true rfl, Nat.le_of_ble_eq_true rfl, Nat.zero_le _, Nat.zero_le _⟩ hP hD hS lk_X11 rfl hl.1 rfl (Nat.le_of_ble_eq_true rfl) dX11_readAct_222) (fun H locs hP hD hS => ?_)
                  refine lv_iconst (v := (1 : Int32)) hx hb dX11_readAct_225 (by decide) ?_
                  have ho := Option.some.inj hf
                  subst ho
                  rw [hQq]
                  exact xs_zret C hr hlk xsB_1 hP hD hS dX11_readAct_226
                · replace hf := xsBr_t c52 hf
                  refine lv_aload_n hx hb dX11_readAct_197 rfl (lv_at hl 1 rfl) ?_
                  refine lv_iload_n hx hb dX11_readAct_198 rfl (lv_at hl 0 rfl) ?_
                  replace hf := xsBd_use hf
                  obtain ⟨o49, h50, hf⟩ := hf
                  refine xs_calli hS (xs_runV (As := [.int o1.2]) C (mX11_wrongAt l  h50) w_1585 w_1587 w_45 w_115 w_1588 hd_X11_wrongAt ⟨rfl, rfl, Nat.le_of_ble_eq_true rfl, Nat.le_of_ble_eq_true rfl, Nat.zero_le _, Nat.zero_le _⟩ hP hD hS lk_X11 rfl hl.1 rfl (Nat.le_of_ble_eq_true rfl) dX11_readAct_199) (fun H locs hP hD hS => ?_)
                  replace hf := xsCk_use hf
                  obtain ⟨h51, hf⟩ := hf
                  have ho := Option.some.inj hf
                  subst ho
                  rw [hQq]
                  exact xs_zret C hr hlk h51 hP hD hS dX11_readAct_202
              · replace hf := xsBr_t c53 hf
                refine lv_iconst (v := (0 : Int32)) hx hb dX11_readAct_170 (by decide) ?_
                have ho := Option.some.inj hf
                subst ho
                rw [hQq]
                exact xs_zret C hr hlk xsB_0 hP hD hS dX11_readAct_171
    · replace hf := xsBr_f c66 hf
      refine lv_aload_n hx hb dX11_readAct_90 rfl (lv_at hl 1 rfl) ?_
      refine lv_iconst (v := (0 : Int32)) hx hb dX11_readAct_91 (by decide) ?_
      refine lv_iconst (v := (0 : Int32)) hx hb dX11_readAct_92 (by decide) ?_
      refine lv_aload_n hx hb dX11_readAct_93 rfl (lv_at hl 1 rfl) ?_
      replace hf := xsBd_use hf
      obtain ⟨o58, h59, hf⟩ := hf
      refine xs_calli hS (xs_runV (As := []) C (mX11_many l  h59) w_1581 w_1583 w_44 w_115 w_1584 hd_X11_many ⟨rfl, rfl, Nat.le_of_ble_eq_true rfl, Nat.le_of_ble_eq_true rfl, Nat.zero_le _, Nat.zero_le _⟩ hP hD hS lk_X11 rfl hl.1 rfl (Nat.le_of_ble_eq_true rfl) dX11_readAct_94) (fun H locs hP hD hS => ?_)
      refine lv_iconst (v := (1 : Int32)) hx hb dX11_readAct_97 (by decide) ?_
      refine lv_isub hx hb dX11_readAct_98 ?_
      replace hf := xsBd_use hf
      obtain ⟨o60, h61, hf⟩ := hf
      refine xs_calli hS (xs_runV (As := [.int (0 : Int32), .int (0 : Int32), .int (o58 - (1 : Int32))]) C (mX11_reads l  h61) w_1568 w_1570 w_42 w_115 w_1571 hd_X11_reads ⟨rfl, rfl, Nat.le_of_ble_eq_true rfl, Nat.le_of_ble_eq_true rfl, Nat.zero_le _, Nat.zero_le _⟩ hP hD hS lk_X11 rfl hl.1 rfl (Nat.le_of_ble_eq_true rfl) dX11_readAct_99) (fun H locs hP hD hS => ?_)
      refine lv_if_ne (tgt := 107) hx hb dX11_readAct_102 (by decide) (fun c65 => ?_) (fun c65 => ?_)
      · replace hf := xsBr_f c65 hf
        refine lv_aload_n hx hb dX11_readAct_107 rfl (lv_at hl 1 rfl) ?_
        refine lv_aload_n hx hb dX11_readAct_108 rfl (lv_at hl 1 rfl) ?_
        refine xg_X11_82 C hP dX11_readAct_109 ?_
        refine lv_iconst (v := (0 : Int32)) hx hb dX11_readAct_112 (by decide) ?_
        replace hf := xsCk_use hf
        obtain ⟨h62, hf⟩ := hf
        refine xl_mTold C hP h62 dX11_readAct_113 ?_
        replace hf := xsBd_use hf
        obtain ⟨o63, h64, hf⟩ := hf
        refine xs_callv hS (xs_runV (As := [.int (o60.2.2.2 (0 : Int32).toNatClampNeg)]) C (mX11_cuts l  h64) w_1598 w_1600 w_48 w_115 w_1601 hd_X11_cuts ⟨rfl, rfl, Nat.le_of_ble_eq_true rfl, Nat.le_of_ble_eq_true rfl, Nat.zero_le _, Nat.zero_le _⟩ hP hD hS lk_X11 rfl hl.1 rfl (Nat.le_of_ble_eq_true rfl) dX11_readAct_114) (fun H locs hP hD hS => ?_)
        refine lv_iconst (v := (1 : Int32)) hx hb dX11_readAct_117 (by decide) ?_
        have ho := Option.some.inj hf
        subst ho
        rw [hQq]
        exact xs_zret C hr hlk xsB_1 hP hD hS dX11_readAct_118
      · replace hf := xsBr_t c65 hf
        refine lv_iconst (v := (0 : Int32)) hx hb dX11_readAct_105 (by decide) ?_
        have ho := Option.some.inj hf
        subst ho
        rw [hQq]
        exact xs_zret C hr hlk xsB_0 hP hD hS dX11_readAct_106
  · replace hf := xsBr_f c83 hf
    refine lv_aload_n hx hb dX11_readAct_19 rfl (lv_at hl 1 rfl) ?_
    replace hf := xsBd_use hf
    obtain ⟨o67, h68, hf⟩ := hf
    refine xs_calli hS (xs_runV (As := []) C (mX11_readsSegment l  h68) w_1560 w_1562 w_40 w_115 w_1563 hd_X11_readsSegment ⟨rfl, rfl, Nat.le_of_ble_eq_true rfl, Nat.le_of_ble_eq_true rfl, Nat.zero_le _, Nat.zero_le _⟩ hP hD hS lk_X11 rfl hl.1 rfl (Nat.le_of_ble_eq_true rfl) dX11_readAct_20) (fun H locs hP hD hS => ?_)
    refine lv_if_ne (tgt := 28) hx hb dX11_readAct_23 (by decide) (fun c82 => ?_) (fun c82 => ?_)
    · replace hf := xsBr_f c82 hf
      refine lv_aload_n hx hb dX11_readAct_28 rfl (lv_at hl 1 rfl) ?_
      replace hf := xsBd_use hf
      obtain ⟨o69, h70, hf⟩ := hf
      refine xs_calli hS (xs_runV (As := []) C (mX11_many l  h70) w_1581 w_1583 w_44 w_115 w_1584 hd_X11_many ⟨rfl, rfl, Nat.le_of_ble_eq_true rfl, Nat.le_of_ble_eq_true rfl, Nat.zero_le _, Nat.zero_le _⟩ hP hD hS lk_X11 rfl hl.1 rfl (Nat.le_of_ble_eq_true rfl) dX11_readAct_29) (fun H locs hP hD hS => ?_)
      refine lv_bipush (v := (24 : Int32)) hx hb dX11_readAct_32 (by decide) ?_
      refine lv_icmp_ne (tgt := 43) hx hb dX11_readAct_34 (by decide) (fun c81 => ?_) (fun c81 => ?_)
      · replace hf := xsBr_f c81 hf
        refine lv_aload_n hx hb dX11_readAct_43 rfl (lv_at hl 1 rfl) ?_
        refine lv_aload_n hx hb dX11_readAct_44 rfl (lv_at hl 1 rfl) ?_
        refine xg_X11_82 C hP dX11_readAct_45 ?_
        refine lv_iconst (v := (0 : Int32)) hx hb dX11_readAct_48 (by decide) ?_
        replace hf := xsCk_use hf
        obtain ⟨h71, hf⟩ := hf
        refine xl_mTold C hP h71 dX11_readAct_49 ?_
        refine lv_aload_n hx hb dX11_readAct_50 rfl (lv_at hl 1 rfl) ?_
        refine xg_X11_82 C hP dX11_readAct_51 ?_
        refine lv_iconst (v := (1 : Int32)) hx hb dX11_readAct_54 (by decide) ?_
        replace hf := xsCk_use hf
        obtain ⟨h72, hf⟩ := hf
        refine xl_mTold C hP h72 dX11_readAct_55 ?_
        refine lv_aload_n hx hb dX11_readAct_56 rfl (lv_at hl 1 rfl) ?_
        refine xg_X11_82 C hP dX11_readAct_57 ?_
        refine lv_iconst (v := (2 : Int32)) hx hb dX11_readAct_60 (by decide) ?_
        replace hf := xsCk_use hf
        obtain ⟨h73, hf⟩ := hf
        refine xl_mTold C hP h73 dX11_readAct_61 ?_
        refine lv_aload_n hx hb dX11_readAct_62 rfl (lv_at hl 1 rfl) ?_
        refine xg_X11_82 C hP dX11_readAct_63 ?_
        refine lv_iconst (v := (3 : Int32)) hx hb dX11_readAct_66 (by decide) ?_
        replace hf := xsCk_use hf
        obtain ⟨h74, hf⟩ := hf
        refine xl_mTold C hP h74 dX11_readAct_67 ?_
        refine lv_aload_n hx hb dX11_readAct_68 rfl (lv_at hl 1 rfl) ?_
        refine xg_X11_82 C hP dX11_readAct_69 ?_
        refine lv_iconst (v := (4 : Int32)) hx hb dX11_readAct_72 (by decide) ?_
        replace hf := xsCk_use hf
        obtain ⟨h75, hf⟩ := hf
        refine xl_mTold C hP h75 dX11_readAct_73 ?_
        replace hf := xsBd_use hf
        obtain ⟨o76, h77, hf⟩ := hf
        refine xs_calli hS (xs_runV (As := [.int (o67.2.2.2 (0 : Int32).toNatClampNeg), .int (o67.2.2.2 (1 : Int32).toNatClampNeg), .int (o67.2.2.2 (2 : Int32).toNatClampNeg), .int (o67.2.2.2 (3 : Int32).toNatClampNeg), .int (o67.2.2.2 (4 : Int32).toNatClampNeg)]) C (mX11_adds l  h77) w_1589 w_1591 w_46 w_115 w_1592 hd_X11_adds ⟨rfl, rfl, Nat.le_of_ble_eq_true rfl, Nat.le_of_ble_eq_true rfl, Nat.zero_le _, Nat.zero_le _⟩ hP hD hS lk_X11 rfl hl.1 rfl (Nat.le_of_ble_eq_true rfl) dX11_readAct_74) (fun H locs hP hD hS => ?_)
        refine lv_pop hx hb dX11_readAct_77 rfl ?_
        refine lv_iconst (v := (1 : Int32)) hx hb dX11_readAct_78 (by decide) ?_
        have ho := Option.some.inj hf
        subst ho
        rw [hQq]
        exact xs_zret C hr hlk xsB_1 hP hD hS dX11_readAct_79
      · replace hf := xsBr_t c81 hf
        refine lv_aload_n hx hb dX11_readAct_37 rfl (lv_at hl 1 rfl) ?_
        refine lv_iload_n hx hb dX11_readAct_38 rfl (lv_at hl 0 rfl) ?_
        replace hf := xsBd_use hf
        obtain ⟨o78, h79, hf⟩ := hf
        refine xs_calli hS (xs_runV (As := [.int o1.2]) C (mX11_wrongAt l  h79) w_1585 w_1587 w_45 w_115 w_1588 hd_X11_wrongAt ⟨rfl, rfl, Nat.le_of_ble_eq_true rfl, Nat.le_of_ble_eq_true rfl, Nat.zero_le _, Nat.zero_le _⟩ hP hD hS lk_X11 rfl hl.1 rfl (Nat.le_of_ble_eq_true rfl) dX11_readAct_39) (fun H locs hP hD hS => ?_)
        replace hf := xsCk_use hf
        obtain ⟨h80, hf⟩ := hf
        have ho := Option.some.inj hf
        subst ho
        rw [hQq]
        exact xs_zret C hr hlk h80 hP hD hS dX11_readAct_42
    · replace hf := xsBr_t c82 hf
      refine lv_iconst (v := (0 : Int32)) hx hb dX11_readAct_26 (by decide) ?_
      have ho := Option.some.inj hf
      subst ho
      rw [hQq]
      exact xs_zret C hr hlk xsB_0 hP hD hS dX11_readAct_27
set_option maxRecDepth 100000 in
set_option maxHeartbeats 8000000 in
theorem mX11_readActs (l : Launch) {X : xsX} {mThrown mRemembered mHasImage mIsLaid mEvents mCrossings mEdges mTaped mPoint mEnd mBegin mFaultAt mActs : Int32} {mWorld mImage mDraft mEarlier mOne mTwo mShare mCrossingOf mBundle mEventOf mDegree mFrom mTo mMet mTape mFive mTold mFar mViews mHullX mHullY mEndX mEndY mMeets mMeetsOf : Nat → Int32} {mX mY mD mHeightUp mHeightLow : Int64} {mEventX mEventY mEventD mUpper mLower : Nat → Int64} {Rw : va_W} {out : Int32 × (Nat → Int32) × Int32 × Int32 × Int32 × (Nat → Int32) × Int32} (hf : fX11_readActs mWorld mIsLaid mTape mPoint mEnd mBegin mTold mActs = some out) : Met l yX11_readActs (xsWs yX11_readActs cX11_readActs 1 (some .boolean)) { frames := 8, cells := 0, slots := 0, locals := 171 } (xsP X (wM X mThrown mWorld mImage mDraft mEarlier mRemembered mHasImage mIsLaid mOne mTwo mShare mX mY mD mEventX mEventY mEventD mEvents mCrossingOf mBundle mEventOf mDegree mFrom mTo mCrossings mEdges mMet mUpper mLower mTape mTaped mPoint mEnd mBegin mFaultAt mFive mTold mActs mFar mViews mHullX mHullY mEndX mEndY mHeightUp mHeightLow mMeets mMeetsOf Rw) [.ref (xsA X 100)]) (xsQi X out.1 (wM X mThrown out.2.1 mImage mDraft mEarlier mRemembered mHasImage out.2.2.1 mOne mTwo mShare mX mY mD mEventX mEventY mEventD mEvents mCrossingOf mBundle mEventOf mDegree mFrom mTo mCrossings mEdges mMet mUpper mLower mTape mTaped out.2.2.2.1 mEnd out.2.2.2.2.1 mFaultAt mFive out.2.2.2.2.2.1 out.2.2.2.2.2.2 mFar mViews mHullX mHullY mEndX mEndY mHeightUp mHeightLow mMeets mMeetsOf Rw)) 0 0 (xsF X) := by
  refine xs_meth RX11 (by decide) rfl (Nat.le_of_ble_eq_true rfl) ?_
  intro p e s m below meth c ls H locs C hP hD hS hr hlk hl
  have hx := C.1
  have hb := C.2.1
  have hl : lv_has ls 1 [(0, .ref (xsA X 100))] := hl
  obtain ⟨Qq, hQq⟩ : ∃ Qq, Qq = xsQi X out.1 (wM X mThrown out.2.1 mImage mDraft mEarlier mRemembered mHasImage out.2.2.1 mOne mTwo mShare mX mY mD mEventX mEventY mEventD mEvents mCrossingOf mBundle mEventOf mDegree mFrom mTo mCrossings mEdges mMet mUpper mLower mTape mTaped out.2.2.2.1 mEnd out.2.2.2.2.1 mFaultAt mFive out.2.2.2.2.2.1 out.2.2.2.2.2.2 mFar mViews mHullX mHullY mEndX mEndY mHeightUp mHeightLow mMeets mMeetsOf Rw) := ⟨_, rfl⟩
  rw [← hQq]
  unfold fX11_readActs at hf
  refine lv_aload_n hx hb dX11_readActs_0 rfl (lv_at hl 0 rfl) ?_
  refine lv_iconst (v := (0 : Int32)) hx hb dX11_readActs_1 (by decide) ?_
  refine xp_X11_325 C hP hD hS dX11_readActs_2 (fun H locs hP hD hS => ?_)
  refine lv_aload_n hx hb dX11_readActs_5 rfl (lv_at hl 0 rfl) ?_
  replace hf := xsBd_use hf
  obtain ⟨o1, h2, hf⟩ := hf
  refine xs_callv hS (xs_runV (As := []) C (mX11_blanks l  h2) w_1537 w_1539 w_35 w_115 w_1540 hd_X11_blanks ⟨rfl, rfl, Nat.le_of_ble_eq_true rfl, Nat.le_of_ble_eq_true rfl, Nat.zero_le _, Nat.zero_le _⟩ hP hD hS lk_X11 rfl hl.1 rfl (Nat.le_of_ble_eq_true rfl) dX11_readActs_6) (fun H locs hP hD hS => ?_)
  refine lv_aload_n hx hb dX11_readActs_9 rfl (lv_at hl 0 rfl) ?_
  refine xg_X11_247 C hP dX11_readActs_10 ?_
  refine lv_aload_n hx hb dX11_readActs_13 rfl (lv_at hl 0 rfl) ?_
  refine xg_X11_250 C hP dX11_readActs_14 ?_
  refine lv_icmp_ne (tgt := 22) hx hb dX11_readActs_17 (by decide) (fun c30 => ?_) (fun c30 => ?_)
  · replace hf := xsBr_f c30 hf
    have K9 : ∀ (y10 : Nat → Int32) (y11 : Int32) (y12 : Int32) (y13 : Int32) (y14 : Nat → Int32) (y15 : Int32) (hf : fX11_readActs_J31 mTape mEnd y10 y11 y12 y13 y14 y15 = some out) (H : Heap) (locs : List Loc) (ls : Array Slot), va_P (xsD X) vwCl (wM X mThrown y10 mImage mDraft mEarlier mRemembered mHasImage y11 mOne mTwo mShare mX mY mD mEventX mEventY mEventD mEvents mCrossingOf mBundle mEventOf mDegree mFrom mTo mCrossings mEdges mMet mUpper mLower mTape mTaped y12 mEnd y13 mFaultAt mFive y14 y15 mFar mViews mHullX mHullY mEndX mEndY mHeightUp mHeightLow mMeets mMeetsOf Rw) H → va_D (xsF X) (wM X mThrown y10 mImage mDraft mEarlier mRemembered mHasImage y11 mOne mTwo mShare mX mY mD mEventX mEventY mEventD mEvents mCrossingOf mBundle mEventOf mDegree mFrom mTo mCrossings mEdges mMet mUpper mLower mTape mTaped y12 mEnd y13 mFaultAt mFive y14 y15 mFar mViews mHullX mHullY mEndX mEndY mHeightUp mHeightLow mMeets mMeetsOf Rw) → va_S (xsF X) s.heap H locs → lv_has ls 1 [(0, .ref (xsA X 100))] → W p l e { frames := 8, cells := 0, slots := 0, locals := 171 } s m ([.ref (xsA X 100)] : List Value).toArray below meth c H locs 0 0 (MQ below Qq ([.ref (xsA X 100)] : List Value).toArray s 0 0 (xsF X)) (F0 m 31 ls []) := by
      intro y10 y11 y12 y13 y14 y15 hf H locs ls hP hD hS hl
      unfold fX11_readActs_J31 at hf
      refine lv_aload_n hx hb dX11_readActs_31 rfl (lv_at hl 0 rfl) ?_
      replace hf := xsBd_use hf
      obtain ⟨o16, h17, hf⟩ := hf
      refine xs_callv hS (xs_runV (As := []) C (mX11_letters l  h17) w_1545 w_1547 w_37 w_115 w_1548 hd_X11_letters ⟨rfl, rfl, Nat.le_of_ble_eq_true rfl, Nat.le_of_ble_eq_true rfl, Nat.zero_le _, Nat.zero_le _⟩ hP hD hS lk_X11 rfl hl.1 rfl (Nat.le_of_ble_eq_true rfl) dX11_readActs_32) (fun H locs hP hD hS => ?_)
      refine lv_iconst (v := (0 : Int32)) hx hb dX11_readActs_35 (by decide) ?_
      have ho := Option.some.inj hf
      subst ho
      rw [hQq]
      exact xs_zret C hr hlk xsB_0 hP hD hS dX11_readActs_36
    replace hf := xsBd_use hf
    obtain ⟨r9, hk90, hf⟩ := hf
    have L9 : ∀ (sg : (Nat → Int32) × Int32 × Int32 × Int32 × (Nat → Int32) × Int32) (rg : (Int32 × (Nat → Int32) × Int32 × Int32 × Int32 × (Nat → Int32) × Int32) ⊕ ((Nat → Int32) × Int32 × Int32 × Int32 × (Nat → Int32) × Int32)), xsWh (fun s9 => fX11_readActs_L22 mTape mEnd s9.1 s9.2.1 s9.2.2.1 s9.2.2.2.1 s9.2.2.2.2.1 s9.2.2.2.2.2) sg = some rg → (xsSm rg (fun v9 => fX11_readActs_J31 mTape mEnd v9.1 v9.2.1 v9.2.2.1 v9.2.2.2.1 v9.2.2.2.2.1 v9.2.2.2.2.2) = some out → ∀ (H : Heap) (locs : List Loc) (ls : Array Slot), va_P (xsD X) vwCl (wM X mThrown sg.1 mImage mDraft mEarlier mRemembered mHasImage sg.2.1 mOne mTwo mShare mX mY mD mEventX mEventY mEventD mEvents mCrossingOf mBundle mEventOf mDegree mFrom mTo mCrossings mEdges mMet mUpper mLower mTape mTaped sg.2.2.1 mEnd sg.2.2.2.1 mFaultAt mFive sg.2.2.2.2.1 sg.2.2.2.2.2 mFar mViews mHullX mHullY mEndX mEndY mHeightUp mHeightLow mMeets mMeetsOf Rw) H → va_D (xsF X) (wM X mThrown sg.1 mImage mDraft mEarlier mRemembered mHasImage sg.2.1 mOne mTwo mShare mX mY mD mEventX mEventY mEventD mEvents mCrossingOf mBundle mEventOf mDegree mFrom mTo mCrossings mEdges mMet mUpper mLower mTape mTaped sg.2.2.1 mEnd sg.2.2.2.1 mFaultAt mFive sg.2.2.2.2.1 sg.2.2.2.2.2 mFar mViews mHullX mHullY mEndX mEndY mHeightUp mHeightLow mMeets mMeetsOf Rw) → va_S (xsF X) s.heap H locs → lv_has ls 1 [(0, .ref (xsA X 100))] → W p l e { frames := 8, cells := 0, slots := 0, locals := 171 } s m ([.ref (xsA X 100)] : List Value).toArray below meth c H locs 0 0 (MQ below Qq ([.ref (xsA X 100)] : List Value).toArray s 0 0 (xsF X)) (F0 m 22 ls [])) := by
      refine xsWh_ind ?_
      intro sg r9 u9 hf ih9 hx9 hk9 H locs ls hP hD hS hl
      obtain ⟨y3, y4, y5, y6, y7, y8⟩ := sg
      replace hf : fX11_readActs_L22 mTape mEnd y3 y4 y5 y6 y7 y8 = some u9 := hf
      replace hl : lv_has ls 1 [(0, .ref (xsA X 100))] := hl
      replace hP : va_P (xsD X) vwCl (wM X mThrown y3 mImage mDraft mEarlier mRemembered mHasImage y4 mOne mTwo mShare mX mY mD mEventX mEventY mEventD mEvents mCrossingOf mBundle mEventOf mDegree mFrom mTo mCrossings mEdges mMet mUpper mLower mTape mTaped y5 mEnd y6 mFaultAt mFive y7 y8 mFar mViews mHullX mHullY mEndX mEndY mHeightUp mHeightLow mMeets mMeetsOf Rw) H := hP
      replace hD : va_D (xsF X) (wM X mThrown y3 mImage mDraft mEarlier mRemembered mHasImage y4 mOne mTwo mShare mX mY mD mEventX mEventY mEventD mEvents mCrossingOf mBundle mEventOf mDegree mFrom mTo mCrossings mEdges mMet mUpper mLower mTape mTaped y5 mEnd y6 mFaultAt mFive y7 y8 mFar mViews mHullX mHullY mEndX mEndY mHeightUp mHeightLow mMeets mMeetsOf Rw) := hD
      unfold fX11_readActs_L22 at hf
      refine lv_aload_n hx hb dX11_readActs_22 rfl (lv_at hl 0 rfl) ?_
      refine xg_X11_325 C hP dX11_readActs_23 ?_
      refine lv_bipush (v := (14 : Int32)) hx hb dX11_readActs_26 (by decide) ?_
      refine lv_icmp_ne (tgt := 37) hx hb dX11_readActs_28 (by decide) (fun c29 => ?_) (fun c29 => ?_)
      · replace hf := xsBr_f c29 hf
        refine lv_aload_n hx hb dX11_readActs_37 rfl (lv_at hl 0 rfl) ?_
        replace hf := xsBd_use hf
        obtain ⟨o18, h19, hf⟩ := hf
        refine xs_calli hS (xs_runV (As := []) C (mX11_readAct l  h19) w_1549 w_1551 w_38 w_115 w_1552 hd_X11_readAct ⟨rfl, rfl, Nat.le_of_ble_eq_true rfl, Nat.le_of_ble_eq_true rfl, Nat.zero_le _, Nat.zero_le _⟩ hP hD hS lk_X11 rfl hl.1 rfl (Nat.le_of_ble_eq_true rfl) dX11_readActs_38) (fun H locs hP hD hS => ?_)
        refine lv_if_ne (tgt := 46) hx hb dX11_readActs_41 (by decide) (fun c28 => ?_) (fun c28 => ?_)
        · replace hf := xsBr_f c28 hf
          refine lv_aload_n hx hb dX11_readActs_46 rfl (lv_at hl 0 rfl) ?_
          refine lv_dup hx hb dX11_readActs_47 rfl ?_
          refine xg_X11_325 C hP dX11_readActs_48 ?_
          refine lv_iconst (v := (1 : Int32)) hx hb dX11_readActs_51 (by decide) ?_
          refine lv_iadd hx hb dX11_readActs_52 ?_
          refine lv_topi (fun x20 ex20 => ?_)
          replace hf := xsLt_use ex20 hf
          refine xp_X11_325 C hP hD hS dX11_readActs_53 (fun H locs hP hD hS => ?_)
          refine lv_aload_n hx hb dX11_readActs_56 rfl (lv_at hl 0 rfl) ?_
          replace hf := xsBd_use hf
          obtain ⟨o21, h22, hf⟩ := hf
          refine xs_callv hS (xs_runV (As := []) C (mX11_blanks l  h22) w_1537 w_1539 w_35 w_115 w_1540 hd_X11_blanks ⟨rfl, rfl, Nat.le_of_ble_eq_true rfl, Nat.le_of_ble_eq_true rfl, Nat.zero_le _, Nat.zero_le _⟩ hP hD hS lk_X11 rfl hl.1 rfl (Nat.le_of_ble_eq_true rfl) dX11_readActs_57) (fun H locs hP hD hS => ?_)
          refine lv_aload_n hx hb dX11_readActs_60 rfl (lv_at hl 0 rfl) ?_
          refine xg_X11_247 C hP dX11_readActs_61 ?_
          refine lv_aload_n hx hb dX11_readActs_64 rfl (lv_at hl 0 rfl) ?_
          refine xg_X11_250 C hP dX11_readActs_65 ?_
          refine lv_icmp_ne (tgt := 73) hx hb dX11_readActs_68 (by decide) (fun c27 => ?_) (fun c27 => ?_)
          · replace hf := xsBr_f c27 hf
            refine lv_aload_n hx hb dX11_readActs_73 rfl (lv_at hl 0 rfl) ?_
            refine lv_bipush (v := (59 : Int32)) hx hb dX11_readActs_74 (by decide) ?_
            refine lv_bipush (v := (59 : Int32)) hx hb dX11_readActs_76 (by decide) ?_
            replace hf := xsBd_use hf
            obtain ⟨o23, h24, hf⟩ := hf
            refine xs_calli hS (xs_runV (As := [.int (59 : Int32), .int (59 : Int32)]) C (mX11_isAt l  h24) w_1541 w_1543 w_36 w_115 w_1544 hd_X11_isAt ⟨rfl, rfl, Nat.le_of_ble_eq_true rfl, Nat.le_of_ble_eq_true rfl, Nat.zero_le _, Nat.zero_le _⟩ hP hD hS lk_X11 rfl hl.1 rfl (Nat.le_of_ble_eq_true rfl) dX11_readActs_78) (fun H locs hP hD hS => ?_)
            refine lv_if_ne (tgt := 86) hx hb dX11_readActs_81 (by decide) (fun c26 => ?_) (fun c26 => ?_)
            · replace hf := xsBr_f c26 hf
              refine lv_aload_n hx hb dX11_readActs_86 rfl (lv_at hl 0 rfl) ?_
              refine lv_dup hx hb dX11_readActs_87 rfl ?_
              refine xg_X11_247 C hP dX11_readActs_88 ?_
              refine lv_iconst (v := (1 : Int32)) hx hb dX11_readActs_91 (by decide) ?_
              refine lv_iadd hx hb dX11_readActs_92 ?_
              refine lv_topi (fun x25 ex25 => ?_)
              replace hf := xsLt_use ex25 hf
              refine xp_X11_247 C hP hD hS dX11_readActs_93 (fun H locs hP hD hS => ?_)
              refine lv_goto (tgt := 22) hx hb dX11_readActs_96 (by decide) ?_
              exact ih9 _ (Option.some.inj hf).symm hk9 H locs ls hP hD hS (lv_sub hl [0] rfl)
            · replace hf := xsBr_t c26 hf
              refine lv_iconst (v := (0 : Int32)) hx hb dX11_readActs_84 (by decide) ?_
              have ez := hx9 _ (Option.some.inj hf).symm
              subst ez
              have hf := hk9
              have ho := Option.some.inj hf
              subst ho
              rw [hQq]
              exact xs_zret C hr hlk xsB_0 hP hD hS dX11_readActs_85
          · replace hf := xsBr_t c27 hf
            refine lv_iconst (v := (1 : Int32)) hx hb dX11_readActs_71 (by decide) ?_
            have ez := hx9 _ (Option.some.inj hf).symm
            subst ez
            have hf := hk9
            have ho := Option.some.inj hf
            subst ho
            rw [hQq]
            exact xs_zret C hr hlk xsB_1 hP hD hS dX11_readActs_72
        · replace hf := xsBr_t c28 hf
          refine lv_iconst (v := (0 : Int32)) hx hb dX11_readActs_44 (by decide) ?_
          have ez := hx9 _ (Option.some.inj hf).symm
          subst ez
          have hf := hk9
          have ho := Option.some.inj hf
          subst ho
          rw [hQq]
          exact xs_zret C hr hlk xsB_0 hP hD hS dX11_readActs_45
      · replace hf := xsBr_t c29 hf
        have ez := hx9 _ (Option.some.inj hf).symm
        subst ez
        exact K9 y3 y4 y5 y6 y7 y8 hk9 H locs ls hP hD hS (lv_sub hl [0] rfl)
    exact L9 (mWorld, mIsLaid, o1.1, o1.2, mTold, (0 : Int32)) r9 hk90 hf H locs ls hP hD hS (lv_sub hl [0] rfl)
  · replace hf := xsBr_t c30 hf
    refine lv_iconst (v := (1 : Int32)) hx hb dX11_readActs_20 (by decide) ?_
    have ho := Option.some.inj hf
    subst ho
    rw [hQq]
    exact xs_zret C hr hlk xsB_1 hP hD hS dX11_readActs_21
set_option maxRecDepth 100000 in
set_option maxHeartbeats 8000000 in
theorem mX11_copies_v6 (l : Launch) {X : xsX} {mThrown mRemembered mHasImage mIsLaid mEvents mCrossings mEdges mTaped mPoint mEnd mBegin mFaultAt mActs : Int32} {mWorld mImage mDraft mEarlier mOne mTwo mShare mCrossingOf mBundle mEventOf mDegree mFrom mTo mMet mTape mFive mTold mFar mViews mHullX mHullY mEndX mEndY mMeets mMeetsOf : Nat → Int32} {mX mY mD mHeightUp mHeightLow : Int64} {mEventX mEventY mEventD mUpper mLower : Nat → Int64} {Rw : va_W} {a1 : Int32} {a3 : Int32} {out : (Nat → Int32)} (hf : fX11_copies_v6 mWorld mDraft a1 a3 = some out) : Met l yX11_copies (xsWs yX11_copies cX11_copies 5 none) { frames := 0, cells := 0, slots := 0, locals := 0 } (xsP X (wM X mThrown mWorld mImage mDraft mEarlier mRemembered mHasImage mIsLaid mOne mTwo mShare mX mY mD mEventX mEventY mEventD mEvents mCrossingOf mBundle mEventOf mDegree mFrom mTo mCrossings mEdges mMet mUpper mLower mTape mTaped mPoint mEnd mBegin mFaultAt mFive mTold mActs mFar mViews mHullX mHullY mEndX mEndY mHeightUp mHeightLow mMeets mMeetsOf Rw) [.ref (xsA X 103), .int a1, .ref (xsA X 101), .int a3]) (xsQv X (wM X mThrown out mImage mDraft mEarlier mRemembered mHasImage mIsLaid mOne mTwo mShare mX mY mD mEventX mEventY mEventD mEvents mCrossingOf mBundle mEventOf mDegree mFrom mTo mCrossings mEdges mMet mUpper mLower mTape mTaped mPoint mEnd mBegin mFaultAt mFive mTold mActs mFar mViews mHullX mHullY mEndX mEndY mHeightUp mHeightLow mMeets mMeetsOf Rw)) 0 0 (xsF X) := by
  refine xs_meth RX11 (by decide) rfl (Nat.le_of_ble_eq_true rfl) ?_
  intro p e s m below meth c ls H locs C hP hD hS hr hlk hl
  have hx := C.1
  have hb := C.2.1
  have hl : lv_has ls 5 [(0, .ref (xsA X 103)), (1, .int a1), (2, .ref (xsA X 101)), (3, .int a3)] := hl
  obtain ⟨Qq, hQq⟩ : ∃ Qq, Qq = xsQv X (wM X mThrown out mImage mDraft mEarlier mRemembered mHasImage mIsLaid mOne mTwo mShare mX mY mD mEventX mEventY mEventD mEvents mCrossingOf mBundle mEventOf mDegree mFrom mTo mCrossings mEdges mMet mUpper mLower mTape mTaped mPoint mEnd mBegin mFaultAt mFive mTold mActs mFar mViews mHullX mHullY mEndX mEndY mHeightUp mHeightLow mMeets mMeetsOf Rw) := ⟨_, rfl⟩
  rw [← hQq]
  unfold fX11_copies_v6 at hf
  refine lv_iconst (v := (0 : Int32)) hx hb dX11_copies_0 (by decide) ?_
  refine lv_istore (lv' := [(4, .int (0 : Int32)), (0, .ref (xsA X 103)), (1, .int a1), (2, .ref (xsA X 101)), (3, .int a3)]) hx hb dX11_copies_1 hl (by decide) rfl (fun ls hl => ?_)
  have K3 : ∀ (y4 : Nat → Int32) (hf : fX11_copies_v6_J28 y4 = some out) (H : Heap) (locs : List Loc) (ls : Array Slot), va_P (xsD X) vwCl (wM X mThrown y4 mImage mDraft mEarlier mRemembered mHasImage mIsLaid mOne mTwo mShare mX mY mD mEventX mEventY mEventD mEvents mCrossingOf mBundle mEventOf mDegree mFrom mTo mCrossings mEdges mMet mUpper mLower mTape mTaped mPoint mEnd mBegin mFaultAt mFive mTold mActs mFar mViews mHullX mHullY mEndX mEndY mHeightUp mHeightLow mMeets mMeetsOf Rw) H → va_D (xsF X) (wM X mThrown y4 mImage mDraft mEarlier mRemembered mHasImage mIsLaid mOne mTwo mShare mX mY mD mEventX mEventY mEventD mEvents mCrossingOf mBundle mEventOf mDegree mFrom mTo mCrossings mEdges mMet mUpper mLower mTape mTaped mPoint mEnd mBegin mFaultAt mFive mTold mActs mFar mViews mHullX mHullY mEndX mEndY mHeightUp mHeightLow mMeets mMeetsOf Rw) → va_S (xsF X) s.heap H locs → lv_has ls 5 [] → W p l e { frames := 0, cells := 0, slots := 0, locals := 0 } s m ([.ref (xsA X 103), .int a1, .ref (xsA X 101), .int a3] : List Value).toArray below meth c H locs 0 0 (MQ below Qq ([.ref (xsA X 103), .int a1, .ref (xsA X 101), .int a3] : List Value).toArray s 0 0 (xsF X)) (F0 m 28 ls []) := by
    intro y4 hf H locs ls hP hD hS hl
    unfold fX11_copies_v6_J28 at hf
    have ho := Option.some.inj hf
    subst ho
    rw [hQq]
    exact xs_vret C hr hlk hP hD hS dX11_copies_28
  replace hf := xsBd_use hf
  obtain ⟨r3, hk30, hf⟩ := hf
  have L3 : ∀ (sg : Int32 × (Nat → Int32)) (rg : (Nat → Int32)), xsWh (fun s3 => fX11_copies_v6_L3 mDraft a1 a3 s3.1 s3.2) sg = some rg → (fX11_copies_v6_J28 rg = some out → ∀ (H : Heap) (locs : List Loc) (ls : Array Slot), va_P (xsD X) vwCl (wM X mThrown sg.2 mImage mDraft mEarlier mRemembered mHasImage mIsLaid mOne mTwo mShare mX mY mD mEventX mEventY mEventD mEvents mCrossingOf mBundle mEventOf mDegree mFrom mTo mCrossings mEdges mMet mUpper mLower mTape mTaped mPoint mEnd mBegin mFaultAt mFive mTold mActs mFar mViews mHullX mHullY mEndX mEndY mHeightUp mHeightLow mMeets mMeetsOf Rw) H → va_D (xsF X) (wM X mThrown sg.2 mImage mDraft mEarlier mRemembered mHasImage mIsLaid mOne mTwo mShare mX mY mD mEventX mEventY mEventD mEvents mCrossingOf mBundle mEventOf mDegree mFrom mTo mCrossings mEdges mMet mUpper mLower mTape mTaped mPoint mEnd mBegin mFaultAt mFive mTold mActs mFar mViews mHullX mHullY mEndX mEndY mHeightUp mHeightLow mMeets mMeetsOf Rw) → va_S (xsF X) s.heap H locs → lv_has ls 5 [(0, .ref (xsA X 103)), (1, .int a1), (2, .ref (xsA X 101)), (3, .int a3), (4, .int sg.1)] → W p l e { frames := 0, cells := 0, slots := 0, locals := 0 } s m ([.ref (xsA X 103), .int a1, .ref (xsA X 101), .int a3] : List Value).toArray below meth c H locs 0 0 (MQ below Qq ([.ref (xsA X 103), .int a1, .ref (xsA X 101), .int a3] : List Value).toArray s 0 0 (xsF X)) (F0 m 3 ls [])) := by
    refine xsWh_ind ?_
    intro sg r3 u3 hf ih3 hx3 hk3 H locs ls hP hD hS hl
    obtain ⟨y1, y2⟩ := sg
    replace hf : fX11_copies_v6_L3 mDraft a1 a3 y1 y2 = some u3 := hf
    replace hl : lv_has ls 5 [(0, .ref (xsA X 103)), (1, .int a1), (2, .ref (xsA X 101)), (3, .int a3), (4, .int y1)] := hl
    replace hP : va_P (xsD X) vwCl (wM X mThrown y2 mImage mDraft mEarlier mRemembered mHasImage mIsLaid mOne mTwo mShare mX mY mD mEventX mEventY mEventD mEvents mCrossingOf mBundle mEventOf mDegree mFrom mTo mCrossings mEdges mMet mUpper mLower mTape mTaped mPoint mEnd mBegin mFaultAt mFive mTold mActs mFar mViews mHullX mHullY mEndX mEndY mHeightUp mHeightLow mMeets mMeetsOf Rw) H := hP
    replace hD : va_D (xsF X) (wM X mThrown y2 mImage mDraft mEarlier mRemembered mHasImage mIsLaid mOne mTwo mShare mX mY mD mEventX mEventY mEventD mEvents mCrossingOf mBundle mEventOf mDegree mFrom mTo mCrossings mEdges mMet mUpper mLower mTape mTaped mPoint mEnd mBegin mFaultAt mFive mTold mActs mFar mViews mHullX mHullY mEndX mEndY mHeightUp mHeightLow mMeets mMeetsOf Rw) := hD
    unfold fX11_copies_v6_L3 at hf
    refine lv_iload hx hb dX11_copies_3 (lv_at hl 4 rfl) ?_
    refine lv_bipush (v := (121 : Int32)) hx hb dX11_copies_5 (by decide) ?_
    refine lv_icmp_ge (tgt := 28) hx hb dX11_copies_7 (by decide) (fun c9 => ?_) (fun c9 => ?_)
    · replace hf := xsBr_t c9 hf
      have ez := hx3 _ (Option.some.inj hf).symm
      subst ez
      exact K3 y2 hk3 H locs ls hP hD hS (lv_sub hl [] rfl)
    · replace hf := xsBr_f c9 hf
      refine lv_aload_n hx hb dX11_copies_10 rfl (lv_at hl 2 rfl) ?_
      refine lv_iload_n hx hb dX11_copies_11 rfl (lv_at hl 3 rfl) ?_
      refine lv_iload hx hb dX11_copies_12 (lv_at hl 4 rfl) ?_
      refine lv_iadd hx hb dX11_copies_14 ?_
      refine lv_aload_n hx hb dX11_copies_15 rfl (lv_at hl 0 rfl) ?_
      refine lv_iload_n hx hb dX11_copies_16 rfl (lv_at hl 1 rfl) ?_
      refine lv_iload hx hb dX11_copies_17 (lv_at hl 4 rfl) ?_
      refine lv_iadd hx hb dX11_copies_19 ?_
      replace hf := xsCk_use hf
      obtain ⟨h5, hf⟩ := hf
      refine xl_mDraft C hP h5 dX11_copies_20 ?_
      replace hf := xsCk_use hf
      obtain ⟨h6, hf⟩ := hf
      refine xs_mWorld C hP hD hS h6 dX11_copies_21 (fun f7 ef7 H locs hP hD hS => ?_)
      replace hf := xsLt_use ef7 hf
      obtain ⟨x8, ex8⟩ : ∃ y : Int32, y = y1 + (1 : Int32) := ⟨_, rfl⟩
      replace hf := xsLt_use ex8 hf
      refine lv_iinc (v := x8) (lv' := [(4, .int x8), (0, .ref (xsA X 103)), (1, .int a1), (2, .ref (xsA X 101)), (3, .int a3)]) hx hb dX11_copies_22 hl (k := 4) rfl (by rw [ex8]; rfl) (by decide) rfl (fun ls hl => ?_)
      refine lv_goto (tgt := 3) hx hb dX11_copies_25 (by decide) ?_
      exact ih3 _ (Option.some.inj hf).symm hk3 H locs ls hP hD hS (lv_sub hl [1, 2, 3, 4, 0] rfl)
  exact L3 ((0 : Int32), mWorld) r3 hk30 hf H locs ls hP hD hS (lv_sub hl [1, 2, 3, 4, 0] rfl)
set_option maxRecDepth 100000 in
set_option maxHeartbeats 8000000 in
theorem mX11_acts (l : Launch) {X : xsX} {mThrown mRemembered mHasImage mIsLaid mEvents mCrossings mEdges mTaped mPoint mEnd mBegin mFaultAt mActs : Int32} {mWorld mImage mDraft mEarlier mOne mTwo mShare mCrossingOf mBundle mEventOf mDegree mFrom mTo mMet mTape mFive mTold mFar mViews mHullX mHullY mEndX mEndY mMeets mMeetsOf : Nat → Int32} {mX mY mD mHeightUp mHeightLow : Int64} {mEventX mEventY mEventD mUpper mLower : Nat → Int64} {Rw : va_W} {out : Int32 × Int32 × (Nat → Int32) × (Nat → Int32) × Int32 × Int32 × Int32 × Int32 × Int32 × Int32 × Int32 × (Nat → Int32) × Int32} (hf : fX11_acts mThrown mWorld mDraft mRemembered mIsLaid mTape mTaped mPoint mEnd mBegin mFaultAt mTold mActs = some out) : Met l yX11_acts (xsWs yX11_acts cX11_acts 2 (some .int)) { frames := 9, cells := 0, slots := 0, locals := 191 } (xsP X (wM X mThrown mWorld mImage mDraft mEarlier mRemembered mHasImage mIsLaid mOne mTwo mShare mX mY mD mEventX mEventY mEventD mEvents mCrossingOf mBundle mEventOf mDegree mFrom mTo mCrossings mEdges mMet mUpper mLower mTape mTaped mPoint mEnd mBegin mFaultAt mFive mTold mActs mFar mViews mHullX mHullY mEndX mEndY mHeightUp mHeightLow mMeets mMeetsOf Rw) [.ref (xsA X 100)]) (xsQi X out.1 (wM X out.2.1 out.2.2.1 mImage out.2.2.2.1 mEarlier out.2.2.2.2.1 mHasImage out.2.2.2.2.2.1 mOne mTwo mShare mX mY mD mEventX mEventY mEventD mEvents mCrossingOf mBundle mEventOf mDegree mFrom mTo mCrossings mEdges mMet mUpper mLower mTape out.2.2.2.2.2.2.1 out.2.2.2.2.2.2.2.1 out.2.2.2.2.2.2.2.2.1 out.2.2.2.2.2.2.2.2.2.1 out.2.2.2.2.2.2.2.2.2.2.1 mFive out.2.2.2.2.2.2.2.2.2.2.2.1 out.2.2.2.2.2.2.2.2.2.2.2.2 mFar mViews mHullX mHullY mEndX mEndY mHeightUp mHeightLow mMeets mMeetsOf Rw)) 0 0 (xsF X) := by
  refine xs_meth RX11 (by decide) rfl (Nat.le_of_ble_eq_true rfl) ?_
  intro p e s m below meth c ls H locs C hP hD hS hr hlk hl
  have hx := C.1
  have hb := C.2.1
  have hl : lv_has ls 2 [(0, .ref (xsA X 100))] := hl
  obtain ⟨Qq, hQq⟩ : ∃ Qq, Qq = xsQi X out.1 (wM X out.2.1 out.2.2.1 mImage out.2.2.2.1 mEarlier out.2.2.2.2.1 mHasImage out.2.2.2.2.2.1 mOne mTwo mShare mX mY mD mEventX mEventY mEventD mEvents mCrossingOf mBundle mEventOf mDegree mFrom mTo mCrossings mEdges mMet mUpper mLower mTape out.2.2.2.2.2.2.1 out.2.2.2.2.2.2.2.1 out.2.2.2.2.2.2.2.2.1 out.2.2.2.2.2.2.2.2.2.1 out.2.2.2.2.2.2.2.2.2.2.1 mFive out.2.2.2.2.2.2.2.2.2.2.2.1 out.2.2.2.2.2.2.2.2.2.2.2.2 mFar mViews mHullX mHullY mEndX mEndY mHeightUp mHeightLow mMeets mMeetsOf Rw) := ⟨_, rfl⟩
  rw [← hQq]
  unfold fX11_acts at hf
  refine lv_aload_n hx hb dX11_acts_0 rfl (lv_at hl 0 rfl) ?_
  refine lv_iconst (v := (0 : Int32)) hx hb dX11_acts_1 (by decide) ?_
  refine xp_X11_3 C hP hD hS dX11_acts_2 (fun H locs hP hD hS => ?_)
  refine lv_aload_n hx hb dX11_acts_5 rfl (lv_at hl 0 rfl) ?_
  refine lv_aload_n hx hb dX11_acts_6 rfl (lv_at hl 0 rfl) ?_
  refine xg_X11_244 C hP dX11_acts_7 ?_
  refine xp_X11_250 C hP hD hS dX11_acts_10 (fun H locs hP hD hS => ?_)
  refine lv_aload_n hx hb dX11_acts_13 rfl (lv_at hl 0 rfl) ?_
  refine lv_iconst (v := (0 : Int32)) hx hb dX11_acts_14 (by decide) ?_
  refine xp_X11_244 C hP hD hS dX11_acts_15 (fun H locs hP hD hS => ?_)
  refine lv_aload_n hx hb dX11_acts_18 rfl (lv_at hl 0 rfl) ?_
  refine lv_iconst (v := (0 : Int32)) hx hb dX11_acts_19 (by decide) ?_
  refine xp_X11_247 C hP hD hS dX11_acts_20 (fun H locs hP hD hS => ?_)
  refine lv_aload_n hx hb dX11_acts_23 rfl (lv_at hl 0 rfl) ?_
  refine xg_X11_13 C hP dX11_acts_24 ?_
  refine lv_iconst (v := (0 : Int32)) hx hb dX11_acts_27 (by decide) ?_
  refine lv_aload_n hx hb dX11_acts_28 rfl (lv_at hl 0 rfl) ?_
  refine xg_X11_20 C hP dX11_acts_29 ?_
  refine lv_iconst (v := (0 : Int32)) hx hb dX11_acts_32 (by decide) ?_
  replace hf := xsBd_use hf
  obtain ⟨o1, h2, hf⟩ := hf
  refine xs_callv hS (xs_runS (As := [.ref (xsA X 101), .int (0 : Int32), .ref (xsA X 103), .int (0 : Int32)]) C (mX11_copies_v5 l  h2) w_1506 w_1507 w_115 w_1508 hd_X11_copies ⟨rfl, rfl, Nat.le_of_ble_eq_true rfl, Nat.le_of_ble_eq_true rfl, Nat.zero_le _, Nat.zero_le _⟩ hP hD hS hl.1 rfl (Nat.le_of_ble_eq_true rfl) dX11_acts_33) (fun H locs hP hD hS => ?_)
  refine lv_aload_n hx hb dX11_acts_36 rfl (lv_at hl 0 rfl) ?_
  replace hf := xsBd_use hf
  obtain ⟨o3, h4, hf⟩ := hf
  refine xs_calli hS (xs_runV (As := []) C (mX11_readActs l  h4) w_1533 w_1535 w_34 w_115 w_1536 hd_X11_readActs ⟨rfl, rfl, Nat.le_of_ble_eq_true rfl, Nat.le_of_ble_eq_true rfl, Nat.zero_le _, Nat.zero_le _⟩ hP hD hS lk_X11 rfl hl.1 rfl (Nat.le_of_ble_eq_true rfl) dX11_acts_37) (fun H locs hP hD hS => ?_)
  refine lv_istore_n (lv' := [(1, .int o3.1), (0, .ref (xsA X 100))]) hx hb dX11_acts_40 rfl hl (by decide) rfl (fun ls hl => ?_)
  refine lv_aload_n hx hb dX11_acts_41 rfl (lv_at hl 1 rfl) ?_
  refine lv_iconst (v := (0 : Int32)) hx hb dX11_acts_42 (by decide) ?_
  refine xp_X11_109 xsB_0 C hP hD hS dX11_acts_43 (fun H locs hP hD hS => ?_)
  refine lv_aload_n hx hb dX11_acts_46 rfl (lv_at hl 1 rfl) ?_
  refine lv_iload_n hx hb dX11_acts_47 rfl (lv_at hl 0 rfl) ?_
  have K18 : ∀ (y5 : Int32) (hf : fX11_acts_J59 mRemembered mTaped o1 o3 y5 = some out) (H : Heap) (locs : List Loc) (ls : Array Slot), va_P (xsD X) vwCl (wM X (0 : Int32) o3.2.1 mImage o1 mEarlier mRemembered mHasImage (0 : Int32) mOne mTwo mShare mX mY mD mEventX mEventY mEventD mEvents mCrossingOf mBundle mEventOf mDegree mFrom mTo mCrossings mEdges mMet mUpper mLower mTape (0 : Int32) o3.2.2.2.1 mTaped o3.2.2.2.2.1 mFaultAt mFive o3.2.2.2.2.2.1 o3.2.2.2.2.2.2 mFar mViews mHullX mHullY mEndX mEndY mHeightUp mHeightLow mMeets mMeetsOf Rw) H → va_D (xsF X) (wM X (0 : Int32) o3.2.1 mImage o1 mEarlier mRemembered mHasImage (0 : Int32) mOne mTwo mShare mX mY mD mEventX mEventY mEventD mEvents mCrossingOf mBundle mEventOf mDegree mFrom mTo mCrossings mEdges mMet mUpper mLower mTape (0 : Int32) o3.2.2.2.1 mTaped o3.2.2.2.2.1 mFaultAt mFive o3.2.2.2.2.2.1 o3.2.2.2.2.2.2 mFar mViews mHullX mHullY mEndX mEndY mHeightUp mHeightLow mMeets mMeetsOf Rw) → va_S (xsF X) s.heap H locs → lv_has ls 2 [(0, .ref (xsA X 100)), (1, .int o3.1)] → W p l e { frames := 9, cells := 0, slots := 0, locals := 191 } s m ([.ref (xsA X 100)] : List Value).toArray below meth c H locs 0 0 (MQ below Qq ([.ref (xsA X 100)] : List Value).toArray s 0 0 (xsF X)) (F0 m 59 ls [.int y5, .ref (xsA X 100)]) := by
    intro y5 hf H locs ls hP hD hS hl
    unfold fX11_acts_J59 at hf
    refine xp_X11_76 C hP hD hS dX11_acts_59 (fun H locs hP hD hS => ?_)
    refine lv_aload_n hx hb dX11_acts_62 rfl (lv_at hl 0 rfl) ?_
    refine lv_iload_n hx hb dX11_acts_63 rfl (lv_at hl 1 rfl) ?_
    have K14 : ∀ (y6 : Int32) (hf : fX11_acts_J72 mRemembered mTaped o1 o3 y5 y6 = some out) (H : Heap) (locs : List Loc) (ls : Array Slot), va_P (xsD X) vwCl (wM X (0 : Int32) o3.2.1 mImage o1 mEarlier mRemembered mHasImage (0 : Int32) mOne mTwo mShare mX mY mD mEventX mEventY mEventD mEvents mCrossingOf mBundle mEventOf mDegree mFrom mTo mCrossings mEdges mMet mUpper mLower mTape (0 : Int32) o3.2.2.2.1 mTaped o3.2.2.2.2.1 y5 mFive o3.2.2.2.2.2.1 o3.2.2.2.2.2.2 mFar mViews mHullX mHullY mEndX mEndY mHeightUp mHeightLow mMeets mMeetsOf Rw) H → va_D (xsF X) (wM X (0 : Int32) o3.2.1 mImage o1 mEarlier mRemembered mHasImage (0 : Int32) mOne mTwo mShare mX mY mD mEventX mEventY mEventD mEvents mCrossingOf mBundle mEventOf mDegree mFrom mTo mCrossings mEdges mMet mUpper mLower mTape (0 : Int32) o3.2.2.2.1 mTaped o3.2.2.2.2.1 y5 mFive o3.2.2.2.2.2.1 o3.2.2.2.2.2.2 mFar mViews mHullX mHullY mEndX mEndY mHeightUp mHeightLow mMeets mMeetsOf Rw) → va_S (xsF X) s.heap H locs → lv_has ls 2 [(0, .ref (xsA X 100))] → W p l e { frames := 9, cells := 0, slots := 0, locals := 191 } s m ([.ref (xsA X 100)] : List Value).toArray below meth c H locs 0 0 (MQ below Qq ([.ref (xsA X 100)] : List Value).toArray s 0 0 (xsF X)) (F0 m 72 ls [.int y6, .ref (xsA X 100)]) := by
      intro y6 hf H locs ls hP hD hS hl
      unfold fX11_acts_J72 at hf
      refine lv_iconst (v := (1 : Int32)) hx hb dX11_acts_72 (by decide) ?_
      replace hf := xsBd_use hf
      obtain ⟨o7, h8, hf⟩ := hf
      refine xs_calli hS (xs_runV (As := [.int y6, .int (1 : Int32)]) C (mX11_throwsIf l  h8) w_1502 w_1504 w_33 w_115 w_1505 hd_X11_throwsIf ⟨rfl, rfl, Nat.le_of_ble_eq_true rfl, Nat.le_of_ble_eq_true rfl, Nat.zero_le _, Nat.zero_le _⟩ hP hD hS lk_X11 rfl hl.1 rfl (Nat.le_of_ble_eq_true rfl) dX11_acts_73) (fun H locs hP hD hS => ?_)
      refine lv_if_eq (tgt := 94) hx hb dX11_acts_76 (by decide) (fun c11 => ?_) (fun c11 => ?_)
      · replace hf := xsBr_t c11 hf
        refine lv_aload_n hx hb dX11_acts_94 rfl (lv_at hl 0 rfl) ?_
        refine lv_iconst (v := (0 : Int32)) hx hb dX11_acts_95 (by decide) ?_
        refine xp_X11_113 C hP hD hS dX11_acts_96 (fun H locs hP hD hS => ?_)
        refine lv_aload_n hx hb dX11_acts_99 rfl (lv_at hl 0 rfl) ?_
        refine xg_X11_325 C hP dX11_acts_100 ?_
        have ho := Option.some.inj hf
        subst ho
        rw [hQq]
        exact xs_iret C hr hlk hP hD hS dX11_acts_103
      · replace hf := xsBr_f c11 hf
        refine lv_aload_n hx hb dX11_acts_79 rfl (lv_at hl 0 rfl) ?_
        refine xg_X11_20 C hP dX11_acts_80 ?_
        refine lv_iconst (v := (0 : Int32)) hx hb dX11_acts_83 (by decide) ?_
        refine lv_aload_n hx hb dX11_acts_84 rfl (lv_at hl 0 rfl) ?_
        refine xg_X11_13 C hP dX11_acts_85 ?_
        refine lv_iconst (v := (0 : Int32)) hx hb dX11_acts_88 (by decide) ?_
        replace hf := xsBd_use hf
        obtain ⟨o9, h10, hf⟩ := hf
        refine xs_callv hS (xs_runS (As := [.ref (xsA X 103), .int (0 : Int32), .ref (xsA X 101), .int (0 : Int32)]) C (mX11_copies_v6 l  h10) w_1506 w_1507 w_115 w_1508 hd_X11_copies ⟨rfl, rfl, Nat.le_of_ble_eq_true rfl, Nat.le_of_ble_eq_true rfl, Nat.zero_le _, Nat.zero_le _⟩ hP hD hS hl.1 rfl (Nat.le_of_ble_eq_true rfl) dX11_acts_89) (fun H locs hP hD hS => ?_)
        refine lv_iconst (v := (0 : Int32)) hx hb dX11_acts_92 (by decide) ?_
        have ho := Option.some.inj hf
        subst ho
        rw [hQq]
        exact xs_iret C hr hlk hP hD hS dX11_acts_93
    replace hf := xsBd_use hf
    obtain ⟨v12, hf, hk13⟩ := hf
    refine lv_if_ne (tgt := 71) hx hb dX11_acts_64 (by decide) (fun c15 => ?_) (fun c15 => ?_)
    · replace hf := xsBr_f c15 hf
      refine lv_iconst (v := (0 : Int32)) hx hb dX11_acts_71 (by decide) ?_
      have ev := Option.some.inj hf
      subst ev
      exact K14 (0 : Int32) hk13 H locs ls hP hD hS (lv_sub hl [0] rfl)
    · replace hf := xsBr_t c15 hf
      refine lv_iconst (v := (1 : Int32)) hx hb dX11_acts_67 (by decide) ?_
      refine lv_goto (tgt := 72) hx hb dX11_acts_68 (by decide) ?_
      have ev := Option.some.inj hf
      subst ev
      exact K14 (1 : Int32) hk13 H locs ls hP hD hS (lv_sub hl [0] rfl)
  replace hf := xsBd_use hf
  obtain ⟨v16, hf, hk17⟩ := hf
  refine lv_if_eq (tgt := 55) hx hb dX11_acts_48 (by decide) (fun c19 => ?_) (fun c19 => ?_)
  · replace hf := xsBr_t c19 hf
    refine lv_aload_n hx hb dX11_acts_55 rfl (lv_at hl 1 rfl) ?_
    refine xg_X11_256 C hP dX11_acts_56 ?_
    have ev := Option.some.inj hf
    subst ev
    exact K18 o3.2.2.2.2.1 hk17 H locs ls hP hD hS (lv_sub hl [1, 0] rfl)
  · replace hf := xsBr_f c19 hf
    refine lv_iconst (v := (-1 : Int32)) hx hb dX11_acts_51 (by decide) ?_
    refine lv_goto (tgt := 59) hx hb dX11_acts_52 (by decide) ?_
    have ev := Option.some.inj hf
    subst ev
    exact K18 (-1 : Int32) hk17 H locs ls hP hD hS (lv_sub hl [1, 0] rfl)
set_option maxRecDepth 100000 in
set_option maxHeartbeats 8000000 in
theorem mX6_readWord (l : Launch) {X : xsX} {kIsKept kIsStale hiLatest hiSize scLength scFault scAt scNumber piSegmentsNow enKind enFromX enFromY enToX enToY tiMeetingPairs tiAlongPairs tiSize evSize evCrossings evSegmentsNow grEdges grQueued huSize huBestX huBestY : Int32} {scBytes scTold tiTouching tiLyingAlong evBundle evCrossingOf evEventOf evLeftEvent evRightEvent grDegree grFar grQueue huX huY : Nat → Int32} {enX enY enLower : Int64} {evX evY evLower : Nat → Int64} {S : Nat → xsV} {Rw : va_W} {ks : Nat} (hks : ks < 6) {out : Int32 × Int32} (hf : fX6_readWord scBytes scLength scAt ks = some out) : Met l yX6_readWord (xsWs yX6_readWord cX6_readWord 5 (some .boolean)) { frames := 4, cells := 0, slots := 0, locals := 85 } (xsP X (wK X kIsKept kIsStale hiLatest hiSize scBytes scTold scLength scFault scAt scNumber piSegmentsNow enKind enX enY enLower enFromX enFromY enToX enToY tiTouching tiLyingAlong tiMeetingPairs tiAlongPairs tiSize evX evY evLower evBundle evCrossingOf evEventOf evLeftEvent evRightEvent evSize evCrossings evSegmentsNow grDegree grEdges grFar grQueue grQueued huX huY huSize huBestX huBestY S Rw) [.ref (xsA X 3), .ref (xsSK X ks)]) (xsQi X out.1 (wK X kIsKept kIsStale hiLatest hiSize scBytes scTold scLength scFault out.2 scNumber piSegmentsNow enKind enX enY enLower enFromX enFromY enToX enToY tiTouching tiLyingAlong tiMeetingPairs tiAlongPairs tiSize evX evY evLower evBundle evCrossingOf evEventOf evLeftEvent evRightEvent evSize evCrossings evSegmentsNow grDegree grEdges grFar grQueue grQueued huX huY huSize huBestX huBestY S Rw)) 0 0 (xsF X) := by
  refine xs_meth RX6 (by decide) rfl (Nat.le_of_ble_eq_true rfl) ?_
  intro p e s m below meth c ls H locs C hP hD hS hr hlk hl
  have hx := C.1
  have hb := C.2.1
  have hl : lv_has ls 5 [(0, .ref (xsA X 3)), (1, .ref (xsSK X ks))] := hl
  obtain ⟨Qq, hQq⟩ : ∃ Qq, Qq = xsQi X out.1 (wK X kIsKept kIsStale hiLatest hiSize scBytes scTold scLength scFault out.2 scNumber piSegmentsNow enKind enX enY enLower enFromX enFromY enToX enToY tiTouching tiLyingAlong tiMeetingPairs tiAlongPairs tiSize evX evY evLower evBundle evCrossingOf evEventOf evLeftEvent evRightEvent evSize evCrossings evSegmentsNow grDegree grEdges grFar grQueue grQueued huX huY huSize huBestX huBestY S Rw) := ⟨_, rfl⟩
  rw [← hQq]
  unfold fX6_readWord at hf
  refine lv_aload_n hx hb dX6_readWord_0 rfl (lv_at hl 0 rfl) ?_
  replace hf := xsBd_use hf
  obtain ⟨o1, h2, hf⟩ := hf
  refine xs_callv hS (xs_runV (As := []) C (mX6_skipBlanks l  h2) w_778 w_780 w_15 w_108 w_781 hd_X6_skipBlanks ⟨rfl, rfl, Nat.le_of_ble_eq_true rfl, Nat.le_of_ble_eq_true rfl, Nat.zero_le _, Nat.zero_le _⟩ hP hD hS lk_X6 rfl hl.1 rfl (Nat.le_of_ble_eq_true rfl) dX6_readWord_1) (fun H locs hP hD hS => ?_)
  refine lv_aload_n hx hb dX6_readWord_4 rfl (lv_at hl 0 rfl) ?_
  refine xg_X6_33 C hP dX6_readWord_5 ?_
  refine lv_istore_n (lv' := [(2, .int o1), (0, .ref (xsA X 3)), (1, .ref (xsSK X ks))]) hx hb dX6_readWord_8 rfl hl (by decide) rfl (fun ls hl => ?_)
  refine lv_iconst (v := (1 : Int32)) hx hb dX6_readWord_9 (by decide) ?_
  refine lv_istore_n (lv' := [(3, .int (1 : Int32)), (2, .int o1), (0, .ref (xsA X 3)), (1, .ref (xsSK X ks))]) hx hb dX6_readWord_10 rfl hl (by decide) rfl (fun ls hl => ?_)
  have K5 : ∀ (y6 : Int32) (y7 : Int32) (hf : fX6_readWord_J89 ks o1 y6 y7 = some out) (H : Heap) (locs : List Loc) (ls : Array Slot), va_P (xsD X) vwCl (wK X kIsKept kIsStale hiLatest hiSize scBytes scTold scLength scFault o1 scNumber piSegmentsNow enKind enX enY enLower enFromX enFromY enToX enToY tiTouching tiLyingAlong tiMeetingPairs tiAlongPairs tiSize evX evY evLower evBundle evCrossingOf evEventOf evLeftEvent evRightEvent evSize evCrossings evSegmentsNow grDegree grEdges grFar grQueue grQueued huX huY huSize huBestX huBestY S Rw) H → va_D (xsF X) (wK X kIsKept kIsStale hiLatest hiSize scBytes scTold scLength scFault o1 scNumber piSegmentsNow enKind enX enY enLower enFromX enFromY enToX enToY tiTouching tiLyingAlong tiMeetingPairs tiAlongPairs tiSize evX evY evLower evBundle evCrossingOf evEventOf evLeftEvent evRightEvent evSize evCrossings evSegmentsNow grDegree grEdges grFar grQueue grQueued huX huY huSize huBestX huBestY S Rw) → va_S (xsF X) s.heap H locs → lv_has ls 5 [(0, .ref (xsA X 3)), (1, .ref (xsSK X ks)), (2, .int y6), (3, .int y7)] → W p l e { frames := 4, cells := 0, slots := 0, locals := 85 } s m ([.ref (xsA X 3), .ref (xsSK X ks)] : List Value).toArray below meth c H locs 0 0 (MQ below Qq ([.ref (xsA X 3), .ref (xsSK X ks)] : List Value).toArray s 0 0 (xsF X)) (F0 m 89 ls []) := by
    intro y6 y7 hf H locs ls hP hD hS hl
    unfold fX6_readWord_J89 at hf
    refine lv_iload_n hx hb dX6_readWord_89 rfl (lv_at hl 3 rfl) ?_
    refine lv_if_eq (tgt := 106) hx hb dX6_readWord_90 (by decide) (fun c9 => ?_) (fun c9 => ?_)
    · replace hf := xsBr_t c9 hf
      refine lv_iconst (v := (0 : Int32)) hx hb dX6_readWord_106 (by decide) ?_
      have ho := Option.some.inj hf
      subst ho
      rw [hQq]
      exact xs_zret C hr hlk xsB_0 hP hD hS dX6_readWord_107
    · replace hf := xsBr_f c9 hf
      refine lv_iload_n hx hb dX6_readWord_93 rfl (lv_at hl 2 rfl) ?_
      refine lv_aload_n hx hb dX6_readWord_94 rfl (lv_at hl 0 rfl) ?_
      refine xg_X6_33 C hP dX6_readWord_95 ?_
      refine lv_isub hx hb dX6_readWord_98 ?_
      refine lv_aload_n hx hb dX6_readWord_99 rfl (lv_at hl 1 rfl) ?_
      refine xs_calli hS (xs_runVx (As := []) C (mJ0_length l (k := ks) hks) w_791 w_792 w_793 w_116 w_794 hd_J0_length_8abf5 ⟨rfl, rfl, Nat.le_of_ble_eq_true rfl, Nat.le_of_ble_eq_true rfl, Nat.zero_le _, Nat.zero_le _⟩ hP hD hS (vk_recv C.2.2.2.2.2.2.2.2.2.2.2.1 hks hS) hl.1 rfl (Nat.le_of_ble_eq_true rfl) dX6_readWord_100) (fun H locs hP hD hS => ?_)
      refine lv_icmp_eq (tgt := 108) hx hb dX6_readWord_103 (by decide) (fun c8 => ?_) (fun c8 => ?_)
      · replace hf := xsBr_t c8 hf
        refine lv_aload_n hx hb dX6_readWord_108 rfl (lv_at hl 0 rfl) ?_
        refine lv_iload_n hx hb dX6_readWord_109 rfl (lv_at hl 2 rfl) ?_
        refine xp_X6_33 C hP hD hS dX6_readWord_110 (fun H locs hP hD hS => ?_)
        refine lv_iconst (v := (1 : Int32)) hx hb dX6_readWord_113 (by decide) ?_
        have ho := Option.some.inj hf
        subst ho
        rw [hQq]
        exact xs_zret C hr hlk xsB_1 hP hD hS dX6_readWord_114
      · replace hf := xsBr_f c8 hf
        refine lv_iconst (v := (0 : Int32)) hx hb dX6_readWord_106 (by decide) ?_
        have ho := Option.some.inj hf
        subst ho
        rw [hQq]
        exact xs_zret C hr hlk xsB_0 hP hD hS dX6_readWord_107
  replace hf := xsBd_use hf
  obtain ⟨r5, hk50, hf⟩ := hf
  have L5 : ∀ (sg : Int32 × Int32) (rg : Int32 × Int32), xsWh (fun s5 => fX6_readWord_L11 scBytes scLength ks o1 s5.1 s5.2) sg = some rg → (fX6_readWord_J89 ks o1 rg.1 rg.2 = some out → ∀ (H : Heap) (locs : List Loc) (ls : Array Slot), va_P (xsD X) vwCl (wK X kIsKept kIsStale hiLatest hiSize scBytes scTold scLength scFault o1 scNumber piSegmentsNow enKind enX enY enLower enFromX enFromY enToX enToY tiTouching tiLyingAlong tiMeetingPairs tiAlongPairs tiSize evX evY evLower evBundle evCrossingOf evEventOf evLeftEvent evRightEvent evSize evCrossings evSegmentsNow grDegree grEdges grFar grQueue grQueued huX huY huSize huBestX huBestY S Rw) H → va_D (xsF X) (wK X kIsKept kIsStale hiLatest hiSize scBytes scTold scLength scFault o1 scNumber piSegmentsNow enKind enX enY enLower enFromX enFromY enToX enToY tiTouching tiLyingAlong tiMeetingPairs tiAlongPairs tiSize evX evY evLower evBundle evCrossingOf evEventOf evLeftEvent evRightEvent evSize evCrossings evSegmentsNow grDegree grEdges grFar grQueue grQueued huX huY huSize huBestX huBestY S Rw) → va_S (xsF X) s.heap H locs → lv_has ls 5 [(0, .ref (xsA X 3)), (1, .ref (xsSK X ks)), (2, .int sg.1), (3, .int sg.2)] → W p l e { frames := 4, cells := 0, slots := 0, locals := 85 } s m ([.ref (xsA X 3), .ref (xsSK X ks)] : List Value).toArray below meth c H locs 0 0 (MQ below Qq ([.ref (xsA X 3), .ref (xsSK X ks)] : List Value).toArray s 0 0 (xsF X)) (F0 m 11 ls [])) := by
    refine xsWh_ind ?_
    intro sg r5 u5 hf ih5 hx5 hk5 H locs ls hP hD hS hl
    obtain ⟨y3, y4⟩ := sg
    replace hf : fX6_readWord_L11 scBytes scLength ks o1 y3 y4 = some u5 := hf
    replace hl : lv_has ls 5 [(0, .ref (xsA X 3)), (1, .ref (xsSK X ks)), (2, .int y3), (3, .int y4)] := hl
    replace hP : va_P (xsD X) vwCl (wK X kIsKept kIsStale hiLatest hiSize scBytes scTold scLength scFault o1 scNumber piSegmentsNow enKind enX enY enLower enFromX enFromY enToX enToY tiTouching tiLyingAlong tiMeetingPairs tiAlongPairs tiSize evX evY evLower evBundle evCrossingOf evEventOf evLeftEvent evRightEvent evSize evCrossings evSegmentsNow grDegree grEdges grFar grQueue grQueued huX huY huSize huBestX huBestY S Rw) H := hP
    replace hD : va_D (xsF X) (wK X kIsKept kIsStale hiLatest hiSize scBytes scTold scLength scFault o1 scNumber piSegmentsNow enKind enX enY enLower enFromX enFromY enToX enToY tiTouching tiLyingAlong tiMeetingPairs tiAlongPairs tiSize evX evY evLower evBundle evCrossingOf evEventOf evLeftEvent evRightEvent evSize evCrossings evSegmentsNow grDegree grEdges grFar grQueue grQueued huX huY huSize huBestX huBestY S Rw) := hD
    unfold fX6_readWord_L11 at hf
    refine lv_iload_n hx hb dX6_readWord_11 rfl (lv_at hl 2 rfl) ?_
    refine lv_aload_n hx hb dX6_readWord_12 rfl (lv_at hl 0 rfl) ?_
    refine xg_X6_26 C hP dX6_readWord_13 ?_
    refine lv_icmp_ge (tgt := 89) hx hb dX6_readWord_16 (by decide) (fun c25 => ?_) (fun c25 => ?_)
    · replace hf := xsBr_t c25 hf
      have ez := hx5 _ (Option.some.inj hf).symm
      subst ez
      exact K5 y3 y4 hk5 H locs ls hP hD hS (lv_sub hl [0, 1, 2, 3] rfl)
    · replace hf := xsBr_f c25 hf
      refine lv_aload_n hx hb dX6_readWord_19 rfl (lv_at hl 0 rfl) ?_
      refine xg_X6_9 C hP dX6_readWord_20 ?_
      refine lv_iload_n hx hb dX6_readWord_23 rfl (lv_at hl 2 rfl) ?_
      replace hf := xsCk_use hf
      obtain ⟨h10, hf⟩ := hf
      refine xl_scBytes C hP h10 dX6_readWord_24 ?_
      refine lv_bipush (v := (97 : Int32)) hx hb dX6_readWord_25 (by decide) ?_
      refine lv_icmp_lt (tgt := 89) hx hb dX6_readWord_27 (by decide) (fun c24 => ?_) (fun c24 => ?_)
      · replace hf := xsBr_t c24 hf
        have ez := hx5 _ (Option.some.inj hf).symm
        subst ez
        exact K5 y3 y4 hk5 H locs ls hP hD hS (lv_sub hl [0, 1, 2, 3] rfl)
      · replace hf := xsBr_f c24 hf
        refine lv_aload_n hx hb dX6_readWord_30 rfl (lv_at hl 0 rfl) ?_
        refine xg_X6_9 C hP dX6_readWord_31 ?_
        refine lv_iload_n hx hb dX6_readWord_34 rfl (lv_at hl 2 rfl) ?_
        replace hf := xsCk_use hf
        obtain ⟨h11, hf⟩ := hf
        refine xl_scBytes C hP h11 dX6_readWord_35 ?_
        refine lv_bipush (v := (122 : Int32)) hx hb dX6_readWord_36 (by decide) ?_
        refine lv_icmp_gt (tgt := 89) hx hb dX6_readWord_38 (by decide) (fun c23 => ?_) (fun c23 => ?_)
        · replace hf := xsBr_t c23 hf
          have ez := hx5 _ (Option.some.inj hf).symm
          subst ez
          exact K5 y3 y4 hk5 H locs ls hP hD hS (lv_sub hl [0, 1, 2, 3] rfl)
        · replace hf := xsBr_f c23 hf
          refine lv_iload_n hx hb dX6_readWord_41 rfl (lv_at hl 2 rfl) ?_
          refine lv_aload_n hx hb dX6_readWord_42 rfl (lv_at hl 0 rfl) ?_
          refine xg_X6_33 C hP dX6_readWord_43 ?_
          refine lv_isub hx hb dX6_readWord_46 ?_
          refine lv_topi (fun x12 ex12 => ?_)
          replace hf := xsLt_use ex12 hf
          refine lv_istore (lv' := [(4, .int x12), (0, .ref (xsA X 3)), (1, .ref (xsSK X ks)), (2, .int y3), (3, .int y4)]) hx hb dX6_readWord_47 hl (by decide) rfl (fun ls hl => ?_)
          refine lv_iload_n hx hb dX6_readWord_49 rfl (lv_at hl 4 rfl) ?_
          have K17 : ∀ (y13 : Int32) (hf : fX6_readWord_J82 y3 y13 = some u5) (H : Heap) (locs : List Loc) (ls : Array Slot), va_P (xsD X) vwCl (wK X kIsKept kIsStale hiLatest hiSize scBytes scTold scLength scFault o1 scNumber piSegmentsNow enKind enX enY enLower enFromX enFromY enToX enToY tiTouching tiLyingAlong tiMeetingPairs tiAlongPairs tiSize evX evY evLower evBundle evCrossingOf evEventOf evLeftEvent evRightEvent evSize evCrossings evSegmentsNow grDegree grEdges grFar grQueue grQueued huX huY huSize huBestX huBestY S Rw) H → va_D (xsF X) (wK X kIsKept kIsStale hiLatest hiSize scBytes scTold scLength scFault o1 scNumber piSegmentsNow enKind enX enY enLower enFromX enFromY enToX enToY tiTouching tiLyingAlong tiMeetingPairs tiAlongPairs tiSize evX evY evLower evBundle evCrossingOf evEventOf evLeftEvent evRightEvent evSize evCrossings evSegmentsNow grDegree grEdges grFar grQueue grQueued huX huY huSize huBestX huBestY S Rw) → va_S (xsF X) s.heap H locs → lv_has ls 5 [(0, .ref (xsA X 3)), (1, .ref (xsSK X ks)), (2, .int y3)] → W p l e { frames := 4, cells := 0, slots := 0, locals := 85 } s m ([.ref (xsA X 3), .ref (xsSK X ks)] : List Value).toArray below meth c H locs 0 0 (MQ below Qq ([.ref (xsA X 3), .ref (xsSK X ks)] : List Value).toArray s 0 0 (xsF X)) (F0 m 82 ls [.int y13]) := by
            intro y13 hf H locs ls hP hD hS hl
            unfold fX6_readWord_J82 at hf
            refine lv_istore_n (lv' := [(3, .int y13), (0, .ref (xsA X 3)), (1, .ref (xsSK X ks)), (2, .int y3)]) hx hb dX6_readWord_82 rfl hl (by decide) rfl (fun ls hl => ?_)
            obtain ⟨x14, ex14⟩ : ∃ y : Int32, y = y3 + (1 : Int32) := ⟨_, rfl⟩
            replace hf := xsLt_use ex14 hf
            refine lv_iinc (v := x14) (lv' := [(2, .int x14), (3, .int y13), (0, .ref (xsA X 3)), (1, .ref (xsSK X ks))]) hx hb dX6_readWord_83 hl (k := 3) rfl (by rw [ex14]; rfl) (by decide) rfl (fun ls hl => ?_)
            refine lv_goto (tgt := 11) hx hb dX6_readWord_86 (by decide) ?_
            exact ih5 _ (Option.some.inj hf).symm hk5 H locs ls hP hD hS (lv_sub hl [2, 3, 0, 1] rfl)
          replace hf := xsBd_use hf
          obtain ⟨v15, hf, hk16⟩ := hf
          refine lv_if_eq (tgt := 81) hx hb dX6_readWord_50 (by decide) (fun c22 => ?_) (fun c22 => ?_)
          · replace hf := xsBr_t c22 hf
            refine lv_iconst (v := (0 : Int32)) hx hb dX6_readWord_81 (by decide) ?_
            have ev := Option.some.inj hf
            subst ev
            exact K17 (0 : Int32) hk16 H locs ls hP hD hS (lv_sub hl [1, 2, 3] rfl)
          · replace hf := xsBr_f c22 hf
            refine lv_iload hx hb dX6_readWord_53 (lv_at hl 0 rfl) ?_
            refine lv_aload_n hx hb dX6_readWord_55 rfl (lv_at hl 2 rfl) ?_
            refine xs_calli hS (xs_runVx (As := []) C (mJ0_length l (k := ks) hks) w_791 w_792 w_793 w_116 w_794 hd_J0_length_8abf5 ⟨rfl, rfl, Nat.le_of_ble_eq_true rfl, Nat.le_of_ble_eq_true rfl, Nat.zero_le _, Nat.zero_le _⟩ hP hD hS (vk_recv C.2.2.2.2.2.2.2.2.2.2.2.1 hks hS) hl.1 rfl (Nat.le_of_ble_eq_true rfl) dX6_readWord_56) (fun H locs hP hD hS => ?_)
            refine lv_icmp_ge (tgt := 81) hx hb dX6_readWord_59 (by decide) (fun c21 => ?_) (fun c21 => ?_)
            · replace hf := xsBr_t c21 hf
              refine lv_iconst (v := (0 : Int32)) hx hb dX6_readWord_81 (by decide) ?_
              have ev := Option.some.inj hf
              subst ev
              exact K17 (0 : Int32) hk16 H locs ls hP hD hS (lv_sub hl [1, 2, 3] rfl)
            · replace hf := xsBr_f c21 hf
              refine lv_aload_n hx hb dX6_readWord_62 rfl (lv_at hl 2 rfl) ?_
              refine lv_iload hx hb dX6_readWord_63 (lv_at hl 0 rfl) ?_
              replace hf := xsCk_use hf
              obtain ⟨h18, hf⟩ := hf
              refine xs_calli hS (xs_runVx (As := [.int x12]) C (mJ0_charAt l (k := ks) hks h18) w_801 w_802 w_803 w_116 w_804 hd_J0_charAt_5068e ⟨rfl, rfl, Nat.le_of_ble_eq_true rfl, Nat.le_of_ble_eq_true rfl, Nat.zero_le _, Nat.zero_le _⟩ hP hD hS (vk_recv C.2.2.2.2.2.2.2.2.2.2.2.1 hks hS) hl.1 rfl (Nat.le_of_ble_eq_true rfl) dX6_readWord_65) (fun H locs hP hD hS => ?_)
              refine lv_aload_n hx hb dX6_readWord_68 rfl (lv_at hl 1 rfl) ?_
              refine xg_X6_9 C hP dX6_readWord_69 ?_
              refine lv_iload_n hx hb dX6_readWord_72 rfl (lv_at hl 3 rfl) ?_
              replace hf := xsCk_use hf
              obtain ⟨h19, hf⟩ := hf
              refine xl_scBytes C hP h19 dX6_readWord_73 ?_
              refine lv_icmp_ne (tgt := 81) hx hb dX6_readWord_74 (by decide) (fun c20 => ?_) (fun c20 => ?_)
              · replace hf := xsBr_f c20 hf
                refine lv_iconst (v := (0 : Int32)) hx hb dX6_readWord_81 (by decide) ?_
                have ev := Option.some.inj hf
                subst ev
                exact K17 (0 : Int32) hk16 H locs ls hP hD hS (lv_sub hl [1, 2, 3] rfl)
              · replace hf := xsBr_t c20 hf
                refine lv_iconst (v := (1 : Int32)) hx hb dX6_readWord_77 (by decide) ?_
                refine lv_goto (tgt := 82) hx hb dX6_readWord_78 (by decide) ?_
                have ev := Option.some.inj hf
                subst ev
                exact K17 (1 : Int32) hk16 H locs ls hP hD hS (lv_sub hl [1, 2, 3] rfl)
  exact L5 (o1, (1 : Int32)) r5 hk50 hf H locs ls hP hD hS (lv_sub hl [2, 3, 1, 0] rfl)
set_option maxRecDepth 100000 in
set_option maxHeartbeats 8000000 in
theorem mX6_readSeg (l : Launch) {X : xsX} {kIsKept kIsStale hiLatest hiSize scLength scFault scAt scNumber piSegmentsNow enKind enFromX enFromY enToX enToY tiMeetingPairs tiAlongPairs tiSize evSize evCrossings evSegmentsNow grEdges grQueued huSize huBestX huBestY : Int32} {scBytes scTold tiTouching tiLyingAlong evBundle evCrossingOf evEventOf evLeftEvent evRightEvent grDegree grFar grQueue huX huY : Nat → Int32} {enX enY enLower : Int64} {evX evY evLower : Nat → Int64} {S : Nat → xsV} {Rw : va_W} {g3Lx g3Ly g3Rx g3Ry g3Ti : Nat → Int32} {g3Sz : Int32} (hs_3 : S 3 = (g3Lx, g3Ly, g3Rx, g3Ry, g3Ti, g3Sz)) {a0 : Int32} {out : Int32 × (Nat → Int32) × Int32 × Int32 × Int32 × (Nat → Int32) × (Nat → Int32) × (Nat → Int32) × (Nat → Int32) × (Nat → Int32) × Int32} (hf : fX6_readSeg scBytes scTold scLength scFault scAt scNumber g3Lx g3Ly g3Rx g3Ry g3Ti g3Sz a0 = some out) : Met l yX6_readSeg (xsWs yX6_readSeg cX6_readSeg 3 (some .boolean)) { frames := 5, cells := 0, slots := 0, locals := 109 } (xsP X (wK X kIsKept kIsStale hiLatest hiSize scBytes scTold scLength scFault scAt scNumber piSegmentsNow enKind enX enY enLower enFromX enFromY enToX enToY tiTouching tiLyingAlong tiMeetingPairs tiAlongPairs tiSize evX evY evLower evBundle evCrossingOf evEventOf evLeftEvent evRightEvent evSize evCrossings evSegmentsNow grDegree grEdges grFar grQueue grQueued huX huY huSize huBestX huBestY S Rw) [.ref (xsA X 3), .int a0]) (xsQi X out.1 (wK X kIsKept kIsStale hiLatest hiSize scBytes out.2.1 scLength out.2.2.1 out.2.2.2.1 out.2.2.2.2.1 piSegmentsNow enKind enX enY enLower enFromX enFromY enToX enToY tiTouching tiLyingAlong tiMeetingPairs tiAlongPairs tiSize evX evY evLower evBundle evCrossingOf evEventOf evLeftEvent evRightEvent evSize evCrossings evSegmentsNow grDegree grEdges grFar grQueue grQueued huX huY huSize huBestX huBestY (xsSu S 3 (out.2.2.2.2.2.1, out.2.2.2.2.2.2.1, out.2.2.2.2.2.2.2.1, out.2.2.2.2.2.2.2.2.1, out.2.2.2.2.2.2.2.2.2.1, out.2.2.2.2.2.2.2.2.2.2)) Rw)) 0 0 (xsF X) := by
  refine xs_meth RX6 (by decide) rfl (Nat.le_of_ble_eq_true rfl) ?_
  intro p e s m below meth c ls H locs C hP hD hS hr hlk hl
  have hx := C.1
  have hb := C.2.1
  have hl : lv_has ls 3 [(0, .ref (xsA X 3)), (1, .int a0)] := hl
  obtain ⟨Qq, hQq⟩ : ∃ Qq, Qq = xsQi X out.1 (wK X kIsKept kIsStale hiLatest hiSize scBytes out.2.1 scLength out.2.2.1 out.2.2.2.1 out.2.2.2.2.1 piSegmentsNow enKind enX enY enLower enFromX enFromY enToX enToY tiTouching tiLyingAlong tiMeetingPairs tiAlongPairs tiSize evX evY evLower evBundle evCrossingOf evEventOf evLeftEvent evRightEvent evSize evCrossings evSegmentsNow grDegree grEdges grFar grQueue grQueued huX huY huSize huBestX huBestY (xsSu S 3 (out.2.2.2.2.2.1, out.2.2.2.2.2.2.1, out.2.2.2.2.2.2.2.1, out.2.2.2.2.2.2.2.2.1, out.2.2.2.2.2.2.2.2.2.1, out.2.2.2.2.2.2.2.2.2.2)) Rw) := ⟨_, rfl⟩
  rw [← hQq]
  unfold fX6_readSeg at hf
  refine lv_iconst (v := (0 : Int32)) hx hb dX6_readSeg_0 (by decide) ?_
  refine lv_istore_n (lv' := [(2, .int (0 : Int32)), (0, .ref (xsA X 3)), (1, .int a0)]) hx hb dX6_readSeg_1 rfl hl (by decide) rfl (fun ls hl => ?_)
  have K6 : ∀ (y7 : Nat → Int32) (y8 : Int32) (y9 : Int32) (y10 : Int32) (hf : fX6_readSeg_J32 scBytes scLength g3Lx g3Ly g3Rx g3Ry g3Ti g3Sz a0 y7 y8 y9 y10 = some out) (H : Heap) (locs : List Loc) (ls : Array Slot), va_P (xsD X) vwCl (wK X kIsKept kIsStale hiLatest hiSize scBytes y7 scLength y8 y9 y10 piSegmentsNow enKind enX enY enLower enFromX enFromY enToX enToY tiTouching tiLyingAlong tiMeetingPairs tiAlongPairs tiSize evX evY evLower evBundle evCrossingOf evEventOf evLeftEvent evRightEvent evSize evCrossings evSegmentsNow grDegree grEdges grFar grQueue grQueued huX huY huSize huBestX huBestY S Rw) H → va_D (xsF X) (wK X kIsKept kIsStale hiLatest hiSize scBytes y7 scLength y8 y9 y10 piSegmentsNow enKind enX enY enLower enFromX enFromY enToX enToY tiTouching tiLyingAlong tiMeetingPairs tiAlongPairs tiSize evX evY evLower evBundle evCrossingOf evEventOf evLeftEvent evRightEvent evSize evCrossings evSegmentsNow grDegree grEdges grFar grQueue grQueued huX huY huSize huBestX huBestY S Rw) → va_S (xsF X) s.heap H locs → lv_has ls 3 [(0, .ref (xsA X 3)), (1, .int a0)] → W p l e { frames := 5, cells := 0, slots := 0, locals := 109 } s m ([.ref (xsA X 3), .int a0] : List Value).toArray below meth c H locs 0 0 (MQ below Qq ([.ref (xsA X 3), .int a0] : List Value).toArray s 0 0 (xsF X)) (F0 m 32 ls []) := by
    intro y7 y8 y9 y10 hf H locs ls hP hD hS hl
    unfold fX6_readSeg_J32 at hf
    refine lv_aload_n hx hb dX6_readSeg_32 rfl (lv_at hl 0 rfl) ?_
    refine xg_X6_15 C hP dX6_readSeg_33 ?_
    refine lv_iconst (v := (4 : Int32)) hx hb dX6_readSeg_36 (by decide) ?_
    refine lv_iconst (v := (0 : Int32)) hx hb dX6_readSeg_37 (by decide) ?_
    replace hf := xsCk_use hf
    obtain ⟨h11, hf⟩ := hf
    refine xs_scTold C hP hD hS h11 dX6_readSeg_38 (fun f12 ef12 H locs hP hD hS => ?_)
    replace hf := xsLt_use ef12 hf
    refine lv_aload_n hx hb dX6_readSeg_39 rfl (lv_at hl 0 rfl) ?_
    refine va_ldcS hx hb C.2.2.2.1 C.2.2.2.2.2.2.2.2.2.2.1.1.2.1 dX6_readSeg_40 ?_
    replace hf := xsBd_use hf
    obtain ⟨o13, h14, hf⟩ := hf
    refine xs_calli hS (xs_runV (As := [.ref (xsSK X 1)]) C (mX6_readWord l (ks := 1) (by decide) h14) w_787 w_789 w_17 w_108 w_790 hd_X6_readWord ⟨rfl, rfl, Nat.le_of_ble_eq_true rfl, Nat.le_of_ble_eq_true rfl, Nat.zero_le _, Nat.zero_le _⟩ hP hD hS lk_X6 rfl hl.1 rfl (Nat.le_of_ble_eq_true rfl) dX6_readSeg_42) (fun H locs hP hD hS => ?_)
    have K32 : ∀ (y15 : Nat → Int32) (y16 : Int32) (y17 : Int32) (y18 : Int32) (hf : fX6_readSeg_J68 g3Lx g3Ly g3Rx g3Ry g3Ti g3Sz a0 y15 y16 y17 y18 = some out) (H : Heap) (locs : List Loc) (ls : Array Slot), va_P (xsD X) vwCl (wK X kIsKept kIsStale hiLatest hiSize scBytes y15 scLength y16 y17 y18 piSegmentsNow enKind enX enY enLower enFromX enFromY enToX enToY tiTouching tiLyingAlong tiMeetingPairs tiAlongPairs tiSize evX evY evLower evBundle evCrossingOf evEventOf evLeftEvent evRightEvent evSize evCrossings evSegmentsNow grDegree grEdges grFar grQueue grQueued huX huY huSize huBestX huBestY S Rw) H → va_D (xsF X) (wK X kIsKept kIsStale hiLatest hiSize scBytes y15 scLength y16 y17 y18 piSegmentsNow enKind enX enY enLower enFromX enFromY enToX enToY tiTouching tiLyingAlong tiMeetingPairs tiAlongPairs tiSize evX evY evLower evBundle evCrossingOf evEventOf evLeftEvent evRightEvent evSize evCrossings evSegmentsNow grDegree grEdges grFar grQueue grQueued huX huY huSize huBestX huBestY S Rw) → va_S (xsF X) s.heap H locs → lv_has ls 3 [(0, .ref (xsA X 3)), (1, .int a0)] → W p l e { frames := 5, cells := 0, slots := 0, locals := 109 } s m ([.ref (xsA X 3), .int a0] : List Value).toArray below meth c H locs 0 0 (MQ below Qq ([.ref (xsA X 3), .int a0] : List Value).toArray s 0 0 (xsF X)) (F0 m 68 ls []) := by
      intro y15 y16 y17 y18 hf H locs ls hP hD hS hl
      unfold fX6_readSeg_J68 at hf
      refine lv_aload_n hx hb dX6_readSeg_68 rfl (lv_at hl 0 rfl) ?_
      refine xg_X6_22 C hP dX6_readSeg_69 ?_
      replace hf := xsBd_use hf
      obtain ⟨o19, h20, hf⟩ := hf
      refine xs_calli hS (xs_runV (As := []) C (mX7_isFull l (js := 3) (by decide) hs_3 h20) w_860 w_861 w_862 w_106 w_863 hd_X7_isFull ⟨rfl, rfl, Nat.le_of_ble_eq_true rfl, Nat.le_of_ble_eq_true rfl, Nat.zero_le _, Nat.zero_le _⟩ hP hD hS (xs_lkS (by decide)) rfl hl.1 rfl (Nat.le_of_ble_eq_true rfl) dX6_readSeg_72) (fun H locs hP hD hS => ?_)
      refine lv_if_eq (tgt := 84) hx hb dX6_readSeg_75 (by decide) (fun c31 => ?_) (fun c31 => ?_)
      · replace hf := xsBr_t c31 hf
        refine lv_aload_n hx hb dX6_readSeg_84 rfl (lv_at hl 0 rfl) ?_
        refine xg_X6_22 C hP dX6_readSeg_85 ?_
        refine lv_aload_n hx hb dX6_readSeg_88 rfl (lv_at hl 0 rfl) ?_
        refine xg_X6_15 C hP dX6_readSeg_89 ?_
        refine lv_iconst (v := (0 : Int32)) hx hb dX6_readSeg_92 (by decide) ?_
        replace hf := xsCk_use hf
        obtain ⟨h21, hf⟩ := hf
        refine xl_scTold C hP h21 dX6_readSeg_93 ?_
        refine lv_aload_n hx hb dX6_readSeg_94 rfl (lv_at hl 0 rfl) ?_
        refine xg_X6_15 C hP dX6_readSeg_95 ?_
        refine lv_iconst (v := (1 : Int32)) hx hb dX6_readSeg_98 (by decide) ?_
        replace hf := xsCk_use hf
        obtain ⟨h22, hf⟩ := hf
        refine xl_scTold C hP h22 dX6_readSeg_99 ?_
        refine lv_aload_n hx hb dX6_readSeg_100 rfl (lv_at hl 0 rfl) ?_
        refine xg_X6_15 C hP dX6_readSeg_101 ?_
        refine lv_iconst (v := (2 : Int32)) hx hb dX6_readSeg_104 (by decide) ?_
        replace hf := xsCk_use hf
        obtain ⟨h23, hf⟩ := hf
        refine xl_scTold C hP h23 dX6_readSeg_105 ?_
        refine lv_aload_n hx hb dX6_readSeg_106 rfl (lv_at hl 0 rfl) ?_
        refine xg_X6_15 C hP dX6_readSeg_107 ?_
        refine lv_iconst (v := (3 : Int32)) hx hb dX6_readSeg_110 (by decide) ?_
        replace hf := xsCk_use hf
        obtain ⟨h24, hf⟩ := hf
        refine xl_scTold C hP h24 dX6_readSeg_111 ?_
        refine lv_aload_n hx hb dX6_readSeg_112 rfl (lv_at hl 0 rfl) ?_
        refine xg_X6_15 C hP dX6_readSeg_113 ?_
        refine lv_iconst (v := (4 : Int32)) hx hb dX6_readSeg_116 (by decide) ?_
        replace hf := xsCk_use hf
        obtain ⟨h25, hf⟩ := hf
        refine xl_scTold C hP h25 dX6_readSeg_117 ?_
        replace hf := xsBd_use hf
        obtain ⟨o26, h27, hf⟩ := hf
        refine xs_callv hS (xs_runV (As := [.int (y15 (0 : Int32).toNatClampNeg), .int (y15 (1 : Int32).toNatClampNeg), .int (y15 (2 : Int32).toNatClampNeg), .int (y15 (3 : Int32).toNatClampNeg), .int (y15 (4 : Int32).toNatClampNeg)]) C (mX7_append l (js := 3) (by decide) hs_3 h27) w_864 w_865 w_866 w_106 w_867 hd_X7_append ⟨rfl, rfl, Nat.le_of_ble_eq_true rfl, Nat.le_of_ble_eq_true rfl, Nat.zero_le _, Nat.zero_le _⟩ hP hD hS (xs_lkS (by decide)) rfl hl.1 rfl (Nat.le_of_ble_eq_true rfl) dX6_readSeg_118) (fun H locs hP hD hS => ?_)
        refine lv_iconst (v := (1 : Int32)) hx hb dX6_readSeg_121 (by decide) ?_
        have ho := Option.some.inj hf
        subst ho
        rw [hQq]
        exact xs_zret C hr hlk xsB_1 hP hD hS dX6_readSeg_122
      · replace hf := xsBr_f c31 hf
        refine lv_aload_n hx hb dX6_readSeg_78 rfl (lv_at hl 0 rfl) ?_
        refine lv_iload_n hx hb dX6_readSeg_79 rfl (lv_at hl 1 rfl) ?_
        replace hf := xsBd_use hf
        obtain ⟨o28, h29, hf⟩ := hf
        refine xs_calli hS (xs_runV (As := [.int a0]) C (mX6_refuse l  h29) w_851 w_853 w_21 w_108 w_854 hd_X6_refuse ⟨rfl, rfl, Nat.le_of_ble_eq_true rfl, Nat.le_of_ble_eq_true rfl, Nat.zero_le _, Nat.zero_le _⟩ hP hD hS lk_X6 rfl hl.1 rfl (Nat.le_of_ble_eq_true rfl) dX6_readSeg_80) (fun H locs hP hD hS => ?_)
        replace hf := xsCk_use hf
        obtain ⟨h30, hf⟩ := hf
        have ho := Option.some.inj hf
        subst ho
        rw [hQq]
        rw [← xsSu_self (hs_3)] at hP hD
        exact xs_zret C hr hlk h30 hP hD hS dX6_readSeg_83
    refine lv_if_eq (tgt := 68) hx hb dX6_readSeg_45 (by decide) (fun c38 => ?_) (fun c38 => ?_)
    · replace hf := xsBr_t c38 hf
      exact K32 f12 y8 o13.2 y10 hf H locs ls hP hD hS (lv_sub hl [0, 1] rfl)
    · replace hf := xsBr_f c38 hf
      refine lv_aload_n hx hb dX6_readSeg_48 rfl (lv_at hl 0 rfl) ?_
      refine lv_iconst (v := (3 : Int32)) hx hb dX6_readSeg_49 (by decide) ?_
      replace hf := xsBd_use hf
      obtain ⟨o33, h34, hf⟩ := hf
      refine xs_calli hS (xs_runV (As := [.int (3 : Int32)]) C (mX6_readNumber l  h34) w_856 w_858 w_22 w_108 w_859 hd_X6_readNumber ⟨rfl, rfl, Nat.le_of_ble_eq_true rfl, Nat.le_of_ble_eq_true rfl, Nat.zero_le _, Nat.zero_le _⟩ hP hD hS lk_X6 rfl hl.1 rfl (Nat.le_of_ble_eq_true rfl) dX6_readSeg_50) (fun H locs hP hD hS => ?_)
      refine lv_if_ne (tgt := 58) hx hb dX6_readSeg_53 (by decide) (fun c37 => ?_) (fun c37 => ?_)
      · replace hf := xsBr_f c37 hf
        refine lv_aload_n hx hb dX6_readSeg_58 rfl (lv_at hl 0 rfl) ?_
        refine xg_X6_15 C hP dX6_readSeg_59 ?_
        refine lv_iconst (v := (4 : Int32)) hx hb dX6_readSeg_62 (by decide) ?_
        refine lv_aload_n hx hb dX6_readSeg_63 rfl (lv_at hl 0 rfl) ?_
        refine xg_X6_36 C hP dX6_readSeg_64 ?_
        replace hf := xsCk_use hf
        obtain ⟨h35, hf⟩ := hf
        refine xs_scTold C hP hD hS h35 dX6_readSeg_67 (fun f36 ef36 H locs hP hD hS => ?_)
        replace hf := xsLt_use ef36 hf
        exact K32 f36 o33.2.1 o33.2.2.1 o33.2.2.2 hf H locs ls hP hD hS (lv_sub hl [0, 1] rfl)
      · replace hf := xsBr_t c37 hf
        refine lv_iconst (v := (0 : Int32)) hx hb dX6_readSeg_56 (by decide) ?_
        have ho := Option.some.inj hf
        subst ho
        rw [hQq]
        rw [← xsSu_self (hs_3)] at hP hD
        exact xs_zret C hr hlk xsB_0 hP hD hS dX6_readSeg_57
  replace hf := xsBd_use hf
  obtain ⟨r6, hk60, hf⟩ := hf
  have L6 : ∀ (sg : Int32 × (Nat → Int32) × Int32 × Int32 × Int32) (rg : (Int32 × (Nat → Int32) × Int32 × Int32 × Int32 × (Nat → Int32) × (Nat → Int32) × (Nat → Int32) × (Nat → Int32) × (Nat → Int32) × Int32) ⊕ ((Nat → Int32) × Int32 × Int32 × Int32)), xsWh (fun s6 => fX6_readSeg_L2 scBytes scLength g3Lx g3Ly g3Rx g3Ry g3Ti g3Sz s6.1 s6.2.1 s6.2.2.1 s6.2.2.2.1 s6.2.2.2.2) sg = some rg → (xsSm rg (fun v6 => fX6_readSeg_J32 scBytes scLength g3Lx g3Ly g3Rx g3Ry g3Ti g3Sz a0 v6.1 v6.2.1 v6.2.2.1 v6.2.2.2) = some out → ∀ (H : Heap) (locs : List Loc) (ls : Array Slot), va_P (xsD X) vwCl (wK X kIsKept kIsStale hiLatest hiSize scBytes sg.2.1 scLength sg.2.2.1 sg.2.2.2.1 sg.2.2.2.2 piSegmentsNow enKind enX enY enLower enFromX enFromY enToX enToY tiTouching tiLyingAlong tiMeetingPairs tiAlongPairs tiSize evX evY evLower evBundle evCrossingOf evEventOf evLeftEvent evRightEvent evSize evCrossings evSegmentsNow grDegree grEdges grFar grQueue grQueued huX huY huSize huBestX huBestY S Rw) H → va_D (xsF X) (wK X kIsKept kIsStale hiLatest hiSize scBytes sg.2.1 scLength sg.2.2.1 sg.2.2.2.1 sg.2.2.2.2 piSegmentsNow enKind enX enY enLower enFromX enFromY enToX enToY tiTouching tiLyingAlong tiMeetingPairs tiAlongPairs tiSize evX evY evLower evBundle evCrossingOf evEventOf evLeftEvent evRightEvent evSize evCrossings evSegmentsNow grDegree grEdges grFar grQueue grQueued huX huY huSize huBestX huBestY S Rw) → va_S (xsF X) s.heap H locs → lv_has ls 3 [(0, .ref (xsA X 3)), (1, .int a0), (2, .int sg.1)] → W p l e { frames := 5, cells := 0, slots := 0, locals := 109 } s m ([.ref (xsA X 3), .int a0] : List Value).toArray below meth c H locs 0 0 (MQ below Qq ([.ref (xsA X 3), .int a0] : List Value).toArray s 0 0 (xsF X)) (F0 m 2 ls [])) := by
    refine xsWh_ind ?_
    intro sg r6 u6 hf ih6 hx6 hk6 H locs ls hP hD hS hl
    obtain ⟨y1, y2, y3, y4, y5⟩ := sg
    replace hf : fX6_readSeg_L2 scBytes scLength g3Lx g3Ly g3Rx g3Ry g3Ti g3Sz y1 y2 y3 y4 y5 = some u6 := hf
    replace hl : lv_has ls 3 [(0, .ref (xsA X 3)), (1, .int a0), (2, .int y1)] := hl
    replace hP : va_P (xsD X) vwCl (wK X kIsKept kIsStale hiLatest hiSize scBytes y2 scLength y3 y4 y5 piSegmentsNow enKind enX enY enLower enFromX enFromY enToX enToY tiTouching tiLyingAlong tiMeetingPairs tiAlongPairs tiSize evX evY evLower evBundle evCrossingOf evEventOf evLeftEvent evRightEvent evSize evCrossings evSegmentsNow grDegree grEdges grFar grQueue grQueued huX huY huSize huBestX huBestY S Rw) H := hP
    replace hD : va_D (xsF X) (wK X kIsKept kIsStale hiLatest hiSize scBytes y2 scLength y3 y4 y5 piSegmentsNow enKind enX enY enLower enFromX enFromY enToX enToY tiTouching tiLyingAlong tiMeetingPairs tiAlongPairs tiSize evX evY evLower evBundle evCrossingOf evEventOf evLeftEvent evRightEvent evSize evCrossings evSegmentsNow grDegree grEdges grFar grQueue grQueued huX huY huSize huBestX huBestY S Rw) := hD
    unfold fX6_readSeg_L2 at hf
    refine lv_iload_n hx hb dX6_readSeg_2 rfl (lv_at hl 2 rfl) ?_
    refine lv_iconst (v := (4 : Int32)) hx hb dX6_readSeg_3 (by decide) ?_
    refine lv_icmp_ge (tgt := 32) hx hb dX6_readSeg_4 (by decide) (fun c45 => ?_) (fun c45 => ?_)
    · replace hf := xsBr_t c45 hf
      have ez := hx6 _ (Option.some.inj hf).symm
      subst ez
      exact K6 y2 y3 y4 y5 hk6 H locs ls hP hD hS (lv_sub hl [0, 1] rfl)
    · replace hf := xsBr_f c45 hf
      refine lv_aload_n hx hb dX6_readSeg_7 rfl (lv_at hl 0 rfl) ?_
      replace hf := xsBd_use hf
      obtain ⟨o39, h40, hf⟩ := hf
      refine xs_calli hS (xs_runV (As := []) C (mX6_readSigned l  h40) w_843 w_845 w_19 w_108 w_846 hd_X6_readSigned ⟨rfl, rfl, Nat.le_of_ble_eq_true rfl, Nat.le_of_ble_eq_true rfl, Nat.zero_le _, Nat.zero_le _⟩ hP hD hS lk_X6 rfl hl.1 rfl (Nat.le_of_ble_eq_true rfl) dX6_readSeg_8) (fun H locs hP hD hS => ?_)
      refine lv_if_ne (tgt := 16) hx hb dX6_readSeg_11 (by decide) (fun c44 => ?_) (fun c44 => ?_)
      · replace hf := xsBr_f c44 hf
        refine lv_aload_n hx hb dX6_readSeg_16 rfl (lv_at hl 0 rfl) ?_
        refine xg_X6_15 C hP dX6_readSeg_17 ?_
        refine lv_iload_n hx hb dX6_readSeg_20 rfl (lv_at hl 2 rfl) ?_
        refine lv_aload_n hx hb dX6_readSeg_21 rfl (lv_at hl 0 rfl) ?_
        refine xg_X6_36 C hP dX6_readSeg_22 ?_
        replace hf := xsCk_use hf
        obtain ⟨h41, hf⟩ := hf
        refine xs_scTold C hP hD hS h41 dX6_readSeg_25 (fun f42 ef42 H locs hP hD hS => ?_)
        replace hf := xsLt_use ef42 hf
        obtain ⟨x43, ex43⟩ : ∃ y : Int32, y = y1 + (1 : Int32) := ⟨_, rfl⟩
        replace hf := xsLt_use ex43 hf
        refine lv_iinc (v := x43) (lv' := [(2, .int x43), (0, .ref (xsA X 3)), (1, .int a0)]) hx hb dX6_readSeg_26 hl (k := 2) rfl (by rw [ex43]; rfl) (by decide) rfl (fun ls hl => ?_)
        refine lv_goto (tgt := 2) hx hb dX6_readSeg_29 (by decide) ?_
        exact ih6 _ (Option.some.inj hf).symm hk6 H locs ls hP hD hS (lv_sub hl [1, 2, 0] rfl)
      · replace hf := xsBr_t c44 hf
        refine lv_iconst (v := (0 : Int32)) hx hb dX6_readSeg_14 (by decide) ?_
        have ez := hx6 _ (Option.some.inj hf).symm
        subst ez
        have hf := hk6
        have ho := Option.some.inj hf
        subst ho
        rw [hQq]
        rw [← xsSu_self (hs_3)] at hP hD
        exact xs_zret C hr hlk xsB_0 hP hD hS dX6_readSeg_15
  exact L6 ((0 : Int32), scTold, scFault, scAt, scNumber) r6 hk60 hf H locs ls hP hD hS (lv_sub hl [1, 2, 0] rfl)
set_option maxRecDepth 100000 in
set_option maxHeartbeats 8000000 in
theorem mX6_readMove (l : Launch) {X : xsX} {kIsKept kIsStale hiLatest hiSize scLength scFault scAt scNumber piSegmentsNow enKind enFromX enFromY enToX enToY tiMeetingPairs tiAlongPairs tiSize evSize evCrossings evSegmentsNow grEdges grQueued huSize huBestX huBestY : Int32} {scBytes scTold tiTouching tiLyingAlong evBundle evCrossingOf evEventOf evLeftEvent evRightEvent grDegree grFar grQueue huX huY : Nat → Int32} {enX enY enLower : Int64} {evX evY evLower : Nat → Int64} {S : Nat → xsV} {Rw : va_W} {g3Lx g3Ly g3Rx g3Ry g3Ti : Nat → Int32} {g3Sz : Int32} (hs_3 : S 3 = (g3Lx, g3Ly, g3Rx, g3Ry, g3Ti, g3Sz)) {a0 : Int32} {out : Int32 × (Nat → Int32) × Int32 × Int32 × Int32 × (Nat → Int32) × (Nat → Int32) × (Nat → Int32) × (Nat → Int32)} (hf : fX6_readMove scBytes scTold scLength scFault scAt scNumber g3Lx g3Ly g3Rx g3Ry g3Sz a0 = some out) : Met l yX6_readMove (xsWs yX6_readMove cX6_readMove 4 (some .boolean)) { frames := 5, cells := 0, slots := 0, locals := 109 } (xsP X (wK X kIsKept kIsStale hiLatest hiSize scBytes scTold scLength scFault scAt scNumber piSegmentsNow enKind enX enY enLower enFromX enFromY enToX enToY tiTouching tiLyingAlong tiMeetingPairs tiAlongPairs tiSize evX evY evLower evBundle evCrossingOf evEventOf evLeftEvent evRightEvent evSize evCrossings evSegmentsNow grDegree grEdges grFar grQueue grQueued huX huY huSize huBestX huBestY S Rw) [.ref (xsA X 3), .int a0]) (xsQi X out.1 (wK X kIsKept kIsStale hiLatest hiSize scBytes out.2.1 scLength out.2.2.1 out.2.2.2.1 out.2.2.2.2.1 piSegmentsNow enKind enX enY enLower enFromX enFromY enToX enToY tiTouching tiLyingAlong tiMeetingPairs tiAlongPairs tiSize evX evY evLower evBundle evCrossingOf evEventOf evLeftEvent evRightEvent evSize evCrossings evSegmentsNow grDegree grEdges grFar grQueue grQueued huX huY huSize huBestX huBestY (xsSu S 3 (out.2.2.2.2.2.1, out.2.2.2.2.2.2.1, out.2.2.2.2.2.2.2.1, out.2.2.2.2.2.2.2.2, g3Ti, g3Sz)) Rw)) 0 0 (xsF X) := by
  refine xs_meth RX6 (by decide) rfl (Nat.le_of_ble_eq_true rfl) ?_
  intro p e s m below meth c ls H locs C hP hD hS hr hlk hl
  have hx := C.1
  have hb := C.2.1
  have hl : lv_has ls 4 [(0, .ref (xsA X 3)), (1, .int a0)] := hl
  obtain ⟨Qq, hQq⟩ : ∃ Qq, Qq = xsQi X out.1 (wK X kIsKept kIsStale hiLatest hiSize scBytes out.2.1 scLength out.2.2.1 out.2.2.2.1 out.2.2.2.2.1 piSegmentsNow enKind enX enY enLower enFromX enFromY enToX enToY tiTouching tiLyingAlong tiMeetingPairs tiAlongPairs tiSize evX evY evLower evBundle evCrossingOf evEventOf evLeftEvent evRightEvent evSize evCrossings evSegmentsNow grDegree grEdges grFar grQueue grQueued huX huY huSize huBestX huBestY (xsSu S 3 (out.2.2.2.2.2.1, out.2.2.2.2.2.2.1, out.2.2.2.2.2.2.2.1, out.2.2.2.2.2.2.2.2, g3Ti, g3Sz)) Rw) := ⟨_, rfl⟩
  rw [← hQq]
  unfold fX6_readMove at hf
  refine lv_aload_n hx hb dX6_readMove_0 rfl (lv_at hl 0 rfl) ?_
  refine lv_aload_n hx hb dX6_readMove_1 rfl (lv_at hl 0 rfl) ?_
  refine xg_X6_22 C hP dX6_readMove_2 ?_
  refine xg_X6_99 (j := 3) (by decide) hs_3 C hP dX6_readMove_5 ?_
  refine lv_iconst (v := (1 : Int32)) hx hb dX6_readMove_8 (by decide) ?_
  refine lv_isub hx hb dX6_readMove_9 ?_
  replace hf := xsBd_use hf
  obtain ⟨o1, h2, hf⟩ := hf
  refine xs_calli hS (xs_runV (As := [.int (g3Sz - (1 : Int32))]) C (mX6_readNumber l  h2) w_856 w_858 w_22 w_108 w_859 hd_X6_readNumber ⟨rfl, rfl, Nat.le_of_ble_eq_true rfl, Nat.le_of_ble_eq_true rfl, Nat.zero_le _, Nat.zero_le _⟩ hP hD hS lk_X6 rfl hl.1 rfl (Nat.le_of_ble_eq_true rfl) dX6_readMove_10) (fun H locs hP hD hS => ?_)
  refine lv_if_ne (tgt := 18) hx hb dX6_readMove_13 (by decide) (fun c38 => ?_) (fun c38 => ?_)
  · replace hf := xsBr_f c38 hf
    refine lv_aload_n hx hb dX6_readMove_18 rfl (lv_at hl 0 rfl) ?_
    refine xg_X6_36 C hP dX6_readMove_19 ?_
    refine lv_istore_n (lv' := [(2, .int o1.2.2.2), (0, .ref (xsA X 3)), (1, .int a0)]) hx hb dX6_readMove_22 rfl hl (by decide) rfl (fun ls hl => ?_)
    refine lv_aload_n hx hb dX6_readMove_23 rfl (lv_at hl 1 rfl) ?_
    refine va_ldcS hx hb C.2.2.2.1 C.2.2.2.2.2.2.2.2.2.2.1.1.2.2.2.2.1 dX6_readMove_24 ?_
    replace hf := xsBd_use hf
    obtain ⟨o3, h4, hf⟩ := hf
    refine xs_calli hS (xs_runV (As := [.ref (xsSK X 4)]) C (mX6_readWord l (ks := 4) (by decide) h4) w_787 w_789 w_17 w_108 w_790 hd_X6_readWord ⟨rfl, rfl, Nat.le_of_ble_eq_true rfl, Nat.le_of_ble_eq_true rfl, Nat.zero_le _, Nat.zero_le _⟩ hP hD hS lk_X6 rfl hl.1 rfl (Nat.le_of_ble_eq_true rfl) dX6_readMove_26) (fun H locs hP hD hS => ?_)
    refine lv_if_ne (tgt := 41) hx hb dX6_readMove_29 (by decide) (fun c37 => ?_) (fun c37 => ?_)
    · replace hf := xsBr_f c37 hf
      refine lv_iconst (v := (0 : Int32)) hx hb dX6_readMove_41 (by decide) ?_
      refine lv_istore_n (lv' := [(3, .int (0 : Int32)), (2, .int o1.2.2.2), (0, .ref (xsA X 3)), (1, .int a0)]) hx hb dX6_readMove_42 rfl hl (by decide) rfl (fun ls hl => ?_)
      have K10 : ∀ (y11 : Nat → Int32) (y12 : Int32) (y13 : Int32) (y14 : Int32) (hf : fX6_readMove_J73 g3Lx g3Ly g3Rx g3Ry a0 o1 y11 y12 y13 y14 = some out) (H : Heap) (locs : List Loc) (ls : Array Slot), va_P (xsD X) vwCl (wK X kIsKept kIsStale hiLatest hiSize scBytes y11 scLength y12 y13 y14 piSegmentsNow enKind enX enY enLower enFromX enFromY enToX enToY tiTouching tiLyingAlong tiMeetingPairs tiAlongPairs tiSize evX evY evLower evBundle evCrossingOf evEventOf evLeftEvent evRightEvent evSize evCrossings evSegmentsNow grDegree grEdges grFar grQueue grQueued huX huY huSize huBestX huBestY S Rw) H → va_D (xsF X) (wK X kIsKept kIsStale hiLatest hiSize scBytes y11 scLength y12 y13 y14 piSegmentsNow enKind enX enY enLower enFromX enFromY enToX enToY tiTouching tiLyingAlong tiMeetingPairs tiAlongPairs tiSize evX evY evLower evBundle evCrossingOf evEventOf evLeftEvent evRightEvent evSize evCrossings evSegmentsNow grDegree grEdges grFar grQueue grQueued huX huY huSize huBestX huBestY S Rw) → va_S (xsF X) s.heap H locs → lv_has ls 4 [(0, .ref (xsA X 3)), (1, .int a0), (2, .int o1.2.2.2)] → W p l e { frames := 5, cells := 0, slots := 0, locals := 109 } s m ([.ref (xsA X 3), .int a0] : List Value).toArray below meth c H locs 0 0 (MQ below Qq ([.ref (xsA X 3), .int a0] : List Value).toArray s 0 0 (xsF X)) (F0 m 73 ls []) := by
        intro y11 y12 y13 y14 hf H locs ls hP hD hS hl
        unfold fX6_readMove_J73 at hf
        refine lv_aload_n hx hb dX6_readMove_73 rfl (lv_at hl 0 rfl) ?_
        refine xg_X6_22 C hP dX6_readMove_74 ?_
        refine lv_iload_n hx hb dX6_readMove_77 rfl (lv_at hl 2 rfl) ?_
        refine lv_aload_n hx hb dX6_readMove_78 rfl (lv_at hl 0 rfl) ?_
        refine xg_X6_15 C hP dX6_readMove_79 ?_
        refine lv_iconst (v := (0 : Int32)) hx hb dX6_readMove_82 (by decide) ?_
        replace hf := xsCk_use hf
        obtain ⟨h15, hf⟩ := hf
        refine xl_scTold C hP h15 dX6_readMove_83 ?_
        refine lv_i2l hx hb dX6_readMove_84 rfl ?_
        refine lv_aload_n hx hb dX6_readMove_85 rfl (lv_at hl 0 rfl) ?_
        refine xg_X6_15 C hP dX6_readMove_86 ?_
        refine lv_iconst (v := (1 : Int32)) hx hb dX6_readMove_89 (by decide) ?_
        replace hf := xsCk_use hf
        obtain ⟨h16, hf⟩ := hf
        refine xl_scTold C hP h16 dX6_readMove_90 ?_
        refine lv_i2l hx hb dX6_readMove_91 rfl ?_
        replace hf := xsBd_use hf
        obtain ⟨o17, h18, hf⟩ := hf
        refine xs_calli hS (xs_runV (As := [.int o1.2.2.2, .long (y11 (0 : Int32).toNatClampNeg).toInt64, .long (y11 (1 : Int32).toNatClampNeg).toInt64]) C (mX7_canShift l (js := 3) (by decide) hs_3 h18) w_884 w_885 w_886 w_106 w_887 hd_X7_canShift ⟨rfl, rfl, Nat.le_of_ble_eq_true rfl, Nat.le_of_ble_eq_true rfl, Nat.zero_le _, Nat.zero_le _⟩ hP hD hS (xs_lkS (by decide)) rfl hl.1 rfl (Nat.le_of_ble_eq_true rfl) dX6_readMove_92) (fun H locs hP hD hS => ?_)
        refine lv_if_ne (tgt := 104) hx hb dX6_readMove_95 (by decide) (fun c26 => ?_) (fun c26 => ?_)
        · replace hf := xsBr_f c26 hf
          refine lv_aload_n hx hb dX6_readMove_104 rfl (lv_at hl 0 rfl) ?_
          refine xg_X6_22 C hP dX6_readMove_105 ?_
          refine lv_iload_n hx hb dX6_readMove_108 rfl (lv_at hl 2 rfl) ?_
          refine lv_aload_n hx hb dX6_readMove_109 rfl (lv_at hl 0 rfl) ?_
          refine xg_X6_15 C hP dX6_readMove_110 ?_
          refine lv_iconst (v := (0 : Int32)) hx hb dX6_readMove_113 (by decide) ?_
          replace hf := xsCk_use hf
          obtain ⟨h19, hf⟩ := hf
          refine xl_scTold C hP h19 dX6_readMove_114 ?_
          refine lv_aload_n hx hb dX6_readMove_115 rfl (lv_at hl 0 rfl) ?_
          refine xg_X6_15 C hP dX6_readMove_116 ?_
          refine lv_iconst (v := (1 : Int32)) hx hb dX6_readMove_119 (by decide) ?_
          replace hf := xsCk_use hf
          obtain ⟨h20, hf⟩ := hf
          refine xl_scTold C hP h20 dX6_readMove_120 ?_
          replace hf := xsBd_use hf
          obtain ⟨o21, h22, hf⟩ := hf
          refine xs_callv hS (xs_runV (As := [.int o1.2.2.2, .int (y11 (0 : Int32).toNatClampNeg), .int (y11 (1 : Int32).toNatClampNeg)]) C (mX7_shift l (js := 3) (by decide) hs_3 h22) w_893 w_894 w_895 w_106 w_896 hd_X7_shift ⟨rfl, rfl, Nat.le_of_ble_eq_true rfl, Nat.le_of_ble_eq_true rfl, Nat.zero_le _, Nat.zero_le _⟩ hP hD hS (xs_lkS (by decide)) rfl hl.1 rfl (Nat.le_of_ble_eq_true rfl) dX6_readMove_121) (fun H locs hP hD hS => ?_)
          refine lv_iconst (v := (1 : Int32)) hx hb dX6_readMove_124 (by decide) ?_
          have ho := Option.some.inj hf
          subst ho
          rw [hQq]
          exact xs_zret C hr hlk xsB_1 hP hD hS dX6_readMove_125
        · replace hf := xsBr_t c26 hf
          refine lv_aload_n hx hb dX6_readMove_98 rfl (lv_at hl 0 rfl) ?_
          refine lv_iload_n hx hb dX6_readMove_99 rfl (lv_at hl 1 rfl) ?_
          replace hf := xsBd_use hf
          obtain ⟨o23, h24, hf⟩ := hf
          refine xs_calli hS (xs_runV (As := [.int a0]) C (mX6_refuse l  h24) w_851 w_853 w_21 w_108 w_854 hd_X6_refuse ⟨rfl, rfl, Nat.le_of_ble_eq_true rfl, Nat.le_of_ble_eq_true rfl, Nat.zero_le _, Nat.zero_le _⟩ hP hD hS lk_X6 rfl hl.1 rfl (Nat.le_of_ble_eq_true rfl) dX6_readMove_100) (fun H locs hP hD hS => ?_)
          replace hf := xsCk_use hf
          obtain ⟨h25, hf⟩ := hf
          have ho := Option.some.inj hf
          subst ho
          rw [hQq]
          rw [← xsSu_self (hs_3)] at hP hD
          exact xs_zret C hr hlk h25 hP hD hS dX6_readMove_103
      replace hf := xsBd_use hf
      obtain ⟨r10, hk100, hf⟩ := hf
      have L10 : ∀ (sg : Int32 × (Nat → Int32) × Int32 × Int32 × Int32) (rg : (Int32 × (Nat → Int32) × Int32 × Int32 × Int32 × (Nat → Int32) × (Nat → Int32) × (Nat → Int32) × (Nat → Int32)) ⊕ ((Nat → Int32) × Int32 × Int32 × Int32)), xsWh (fun s10 => fX6_readMove_L43 scBytes scLength g3Lx g3Ly g3Rx g3Ry s10.1 s10.2.1 s10.2.2.1 s10.2.2.2.1 s10.2.2.2.2) sg = some rg → (xsSm rg (fun v10 => fX6_readMove_J73 g3Lx g3Ly g3Rx g3Ry a0 o1 v10.1 v10.2.1 v10.2.2.1 v10.2.2.2) = some out → ∀ (H : Heap) (locs : List Loc) (ls : Array Slot), va_P (xsD X) vwCl (wK X kIsKept kIsStale hiLatest hiSize scBytes sg.2.1 scLength sg.2.2.1 sg.2.2.2.1 sg.2.2.2.2 piSegmentsNow enKind enX enY enLower enFromX enFromY enToX enToY tiTouching tiLyingAlong tiMeetingPairs tiAlongPairs tiSize evX evY evLower evBundle evCrossingOf evEventOf evLeftEvent evRightEvent evSize evCrossings evSegmentsNow grDegree grEdges grFar grQueue grQueued huX huY huSize huBestX huBestY S Rw) H → va_D (xsF X) (wK X kIsKept kIsStale hiLatest hiSize scBytes sg.2.1 scLength sg.2.2.1 sg.2.2.2.1 sg.2.2.2.2 piSegmentsNow enKind enX enY enLower enFromX enFromY enToX enToY tiTouching tiLyingAlong tiMeetingPairs tiAlongPairs tiSize evX evY evLower evBundle evCrossingOf evEventOf evLeftEvent evRightEvent evSize evCrossings evSegmentsNow grDegree grEdges grFar grQueue grQueued huX huY huSize huBestX huBestY S Rw) → va_S (xsF X) s.heap H locs → lv_has ls 4 [(0, .ref (xsA X 3)), (1, .int a0), (2, .int o1.2.2.2), (3, .int sg.1)] → W p l e { frames := 5, cells := 0, slots := 0, locals := 109 } s m ([.ref (xsA X 3), .int a0] : List Value).toArray below meth c H locs 0 0 (MQ below Qq ([.ref (xsA X 3), .int a0] : List Value).toArray s 0 0 (xsF X)) (F0 m 43 ls [])) := by
        refine xsWh_ind ?_
        intro sg r10 u10 hf ih10 hx10 hk10 H locs ls hP hD hS hl
        obtain ⟨y5, y6, y7, y8, y9⟩ := sg
        replace hf : fX6_readMove_L43 scBytes scLength g3Lx g3Ly g3Rx g3Ry y5 y6 y7 y8 y9 = some u10 := hf
        replace hl : lv_has ls 4 [(0, .ref (xsA X 3)), (1, .int a0), (2, .int o1.2.2.2), (3, .int y5)] := hl
        replace hP : va_P (xsD X) vwCl (wK X kIsKept kIsStale hiLatest hiSize scBytes y6 scLength y7 y8 y9 piSegmentsNow enKind enX enY enLower enFromX enFromY enToX enToY tiTouching tiLyingAlong tiMeetingPairs tiAlongPairs tiSize evX evY evLower evBundle evCrossingOf evEventOf evLeftEvent evRightEvent evSize evCrossings evSegmentsNow grDegree grEdges grFar grQueue grQueued huX huY huSize huBestX huBestY S Rw) H := hP
        replace hD : va_D (xsF X) (wK X kIsKept kIsStale hiLatest hiSize scBytes y6 scLength y7 y8 y9 piSegmentsNow enKind enX enY enLower enFromX enFromY enToX enToY tiTouching tiLyingAlong tiMeetingPairs tiAlongPairs tiSize evX evY evLower evBundle evCrossingOf evEventOf evLeftEvent evRightEvent evSize evCrossings evSegmentsNow grDegree grEdges grFar grQueue grQueued huX huY huSize huBestX huBestY S Rw) := hD
        unfold fX6_readMove_L43 at hf
        refine lv_iload_n hx hb dX6_readMove_43 rfl (lv_at hl 3 rfl) ?_
        refine lv_iconst (v := (2 : Int32)) hx hb dX6_readMove_44 (by decide) ?_
        refine lv_icmp_ge (tgt := 73) hx hb dX6_readMove_45 (by decide) (fun c33 => ?_) (fun c33 => ?_)
        · replace hf := xsBr_t c33 hf
          have ez := hx10 _ (Option.some.inj hf).symm
          subst ez
          exact K10 y6 y7 y8 y9 hk10 H locs ls hP hD hS (lv_sub hl [0, 1, 2] rfl)
        · replace hf := xsBr_f c33 hf
          refine lv_aload_n hx hb dX6_readMove_48 rfl (lv_at hl 0 rfl) ?_
          replace hf := xsBd_use hf
          obtain ⟨o27, h28, hf⟩ := hf
          refine xs_calli hS (xs_runV (As := []) C (mX6_readSigned l  h28) w_843 w_845 w_19 w_108 w_846 hd_X6_readSigned ⟨rfl, rfl, Nat.le_of_ble_eq_true rfl, Nat.le_of_ble_eq_true rfl, Nat.zero_le _, Nat.zero_le _⟩ hP hD hS lk_X6 rfl hl.1 rfl (Nat.le_of_ble_eq_true rfl) dX6_readMove_49) (fun H locs hP hD hS => ?_)
          refine lv_if_ne (tgt := 57) hx hb dX6_readMove_52 (by decide) (fun c32 => ?_) (fun c32 => ?_)
          · replace hf := xsBr_f c32 hf
            refine lv_aload_n hx hb dX6_readMove_57 rfl (lv_at hl 0 rfl) ?_
            refine xg_X6_15 C hP dX6_readMove_58 ?_
            refine lv_iload_n hx hb dX6_readMove_61 rfl (lv_at hl 3 rfl) ?_
            refine lv_aload_n hx hb dX6_readMove_62 rfl (lv_at hl 0 rfl) ?_
            refine xg_X6_36 C hP dX6_readMove_63 ?_
            replace hf := xsCk_use hf
            obtain ⟨h29, hf⟩ := hf
            refine xs_scTold C hP hD hS h29 dX6_readMove_66 (fun f30 ef30 H locs hP hD hS => ?_)
            replace hf := xsLt_use ef30 hf
            obtain ⟨x31, ex31⟩ : ∃ y : Int32, y = y5 + (1 : Int32) := ⟨_, rfl⟩
            replace hf := xsLt_use ex31 hf
            refine lv_iinc (v := x31) (lv' := [(3, .int x31), (0, .ref (xsA X 3)), (1, .int a0), (2, .int o1.2.2.2)]) hx hb dX6_readMove_67 hl (k := 3) rfl (by rw [ex31]; rfl) (by decide) rfl (fun ls hl => ?_)
            refine lv_goto (tgt := 43) hx hb dX6_readMove_70 (by decide) ?_
            exact ih10 _ (Option.some.inj hf).symm hk10 H locs ls hP hD hS (lv_sub hl [1, 2, 3, 0] rfl)
          · replace hf := xsBr_t c32 hf
            refine lv_iconst (v := (0 : Int32)) hx hb dX6_readMove_55 (by decide) ?_
            have ez := hx10 _ (Option.some.inj hf).symm
            subst ez
            have hf := hk10
            have ho := Option.some.inj hf
            subst ho
            rw [hQq]
            rw [← xsSu_self (hs_3)] at hP hD
            exact xs_zret C hr hlk xsB_0 hP hD hS dX6_readMove_56
      exact L10 ((0 : Int32), scTold, o1.2.1, o3.2, o1.2.2.2) r10 hk100 hf H locs ls hP hD hS (lv_sub hl [2, 3, 1, 0] rfl)
    · replace hf := xsBr_t c37 hf
      refine lv_aload_n hx hb dX6_readMove_32 rfl (lv_at hl 1 rfl) ?_
      refine lv_aload_n hx hb dX6_readMove_33 rfl (lv_at hl 1 rfl) ?_
      refine xg_X6_33 C hP dX6_readMove_34 ?_
      replace hf := xsBd_use hf
      obtain ⟨o34, h35, hf⟩ := hf
      refine xs_calli hS (xs_runV (As := [.int o3.2]) C (mX6_refuse l  h35) w_851 w_853 w_21 w_108 w_854 hd_X6_refuse ⟨rfl, rfl, Nat.le_of_ble_eq_true rfl, Nat.le_of_ble_eq_true rfl, Nat.zero_le _, Nat.zero_le _⟩ hP hD hS lk_X6 rfl hl.1 rfl (Nat.le_of_ble_eq_true rfl) dX6_readMove_37) (fun H locs hP hD hS => ?_)
      replace hf := xsCk_use hf
      obtain ⟨h36, hf⟩ := hf
      have ho := Option.some.inj hf
      subst ho
      rw [hQq]
      rw [← xsSu_self (hs_3)] at hP hD
      exact xs_zret C hr hlk h36 hP hD hS dX6_readMove_40
  · replace hf := xsBr_t c38 hf
    refine lv_iconst (v := (0 : Int32)) hx hb dX6_readMove_16 (by decide) ?_
    have ho := Option.some.inj hf
    subst ho
    rw [hQq]
    rw [← xsSu_self (hs_3)] at hP hD
    exact xs_zret C hr hlk xsB_0 hP hD hS dX6_readMove_17
set_option maxRecDepth 100000 in
set_option maxHeartbeats 8000000 in
theorem mX6_readAct (l : Launch) {X : xsX} {kIsKept kIsStale hiLatest hiSize scLength scFault scAt scNumber piSegmentsNow enKind enFromX enFromY enToX enToY tiMeetingPairs tiAlongPairs tiSize evSize evCrossings evSegmentsNow grEdges grQueued huSize huBestX huBestY : Int32} {scBytes scTold tiTouching tiLyingAlong evBundle evCrossingOf evEventOf evLeftEvent evRightEvent grDegree grFar grQueue huX huY : Nat → Int32} {enX enY enLower : Int64} {evX evY evLower : Nat → Int64} {S : Nat → xsV} {Rw : va_W} {g3Lx g3Ly g3Rx g3Ry g3Ti : Nat → Int32} {g3Sz : Int32} (hs_3 : S 3 = (g3Lx, g3Ly, g3Rx, g3Ry, g3Ti, g3Sz)) {out : Int32 × (Nat → Int32) × Int32 × Int32 × Int32 × (Nat → Int32) × (Nat → Int32) × (Nat → Int32) × (Nat → Int32) × (Nat → Int32) × Int32} (hf : fX6_readAct scBytes scTold scLength scFault scAt scNumber g3Lx g3Ly g3Rx g3Ry g3Ti g3Sz = some out) : Met l yX6_readAct (xsWs yX6_readAct cX6_readAct 2 (some .boolean)) { frames := 6, cells := 0, slots := 0, locals := 132 } (xsP X (wK X kIsKept kIsStale hiLatest hiSize scBytes scTold scLength scFault scAt scNumber piSegmentsNow enKind enX enY enLower enFromX enFromY enToX enToY tiTouching tiLyingAlong tiMeetingPairs tiAlongPairs tiSize evX evY evLower evBundle evCrossingOf evEventOf evLeftEvent evRightEvent evSize evCrossings evSegmentsNow grDegree grEdges grFar grQueue grQueued huX huY huSize huBestX huBestY S Rw) [.ref (xsA X 3)]) (xsQi X out.1 (wK X kIsKept kIsStale hiLatest hiSize scBytes out.2.1 scLength out.2.2.1 out.2.2.2.1 out.2.2.2.2.1 piSegmentsNow enKind enX enY enLower enFromX enFromY enToX enToY tiTouching tiLyingAlong tiMeetingPairs tiAlongPairs tiSize evX evY evLower evBundle evCrossingOf evEventOf evLeftEvent evRightEvent evSize evCrossings evSegmentsNow grDegree grEdges grFar grQueue grQueued huX huY huSize huBestX huBestY (xsSu S 3 (out.2.2.2.2.2.1, out.2.2.2.2.2.2.1, out.2.2.2.2.2.2.2.1, out.2.2.2.2.2.2.2.2.1, out.2.2.2.2.2.2.2.2.2.1, out.2.2.2.2.2.2.2.2.2.2)) Rw)) 0 0 (xsF X) := by
  refine xs_meth RX6 (by decide) rfl (Nat.le_of_ble_eq_true rfl) ?_
  intro p e s m below meth c ls H locs C hP hD hS hr hlk hl
  have hx := C.1
  have hb := C.2.1
  have hl : lv_has ls 2 [(0, .ref (xsA X 3))] := hl
  obtain ⟨Qq, hQq⟩ : ∃ Qq, Qq = xsQi X out.1 (wK X kIsKept kIsStale hiLatest hiSize scBytes out.2.1 scLength out.2.2.1 out.2.2.2.1 out.2.2.2.2.1 piSegmentsNow enKind enX enY enLower enFromX enFromY enToX enToY tiTouching tiLyingAlong tiMeetingPairs tiAlongPairs tiSize evX evY evLower evBundle evCrossingOf evEventOf evLeftEvent evRightEvent evSize evCrossings evSegmentsNow grDegree grEdges grFar grQueue grQueued huX huY huSize huBestX huBestY (xsSu S 3 (out.2.2.2.2.2.1, out.2.2.2.2.2.2.1, out.2.2.2.2.2.2.2.1, out.2.2.2.2.2.2.2.2.1, out.2.2.2.2.2.2.2.2.2.1, out.2.2.2.2.2.2.2.2.2.2)) Rw) := ⟨_, rfl⟩
  rw [← hQq]
  unfold fX6_readAct at hf
  refine lv_aload_n hx hb dX6_readAct_0 rfl (lv_at hl 0 rfl) ?_
  refine xg_X6_33 C hP dX6_readAct_1 ?_
  refine lv_istore_n (lv' := [(1, .int scAt), (0, .ref (xsA X 3))]) hx hb dX6_readAct_4 rfl hl (by decide) rfl (fun ls hl => ?_)
  refine lv_aload_n hx hb dX6_readAct_5 rfl (lv_at hl 1 rfl) ?_
  refine va_ldcS hx hb C.2.2.2.1 C.2.2.2.2.2.2.2.2.2.2.1.1.1 dX6_readAct_6 ?_
  replace hf := xsBd_use hf
  obtain ⟨o1, h2, hf⟩ := hf
  refine xs_calli hS (xs_runV (As := [.ref (xsSK X 0)]) C (mX6_readWord l (ks := 0) (by decide) h2) w_787 w_789 w_17 w_108 w_790 hd_X6_readWord ⟨rfl, rfl, Nat.le_of_ble_eq_true rfl, Nat.le_of_ble_eq_true rfl, Nat.zero_le _, Nat.zero_le _⟩ hP hD hS lk_X6 rfl hl.1 rfl (Nat.le_of_ble_eq_true rfl) dX6_readAct_8) (fun H locs hP hD hS => ?_)
  refine lv_if_eq (tgt := 20) hx hb dX6_readAct_11 (by decide) (fun c32 => ?_) (fun c32 => ?_)
  · replace hf := xsBr_t c32 hf
    refine lv_aload_n hx hb dX6_readAct_20 rfl (lv_at hl 1 rfl) ?_
    refine va_ldcS hx hb C.2.2.2.1 C.2.2.2.2.2.2.2.2.2.2.1.1.2.2.1 dX6_readAct_21 ?_
    replace hf := xsBd_use hf
    obtain ⟨o3, h4, hf⟩ := hf
    refine xs_calli hS (xs_runV (As := [.ref (xsSK X 2)]) C (mX6_readWord l (ks := 2) (by decide) h4) w_787 w_789 w_17 w_108 w_790 hd_X6_readWord ⟨rfl, rfl, Nat.le_of_ble_eq_true rfl, Nat.le_of_ble_eq_true rfl, Nat.zero_le _, Nat.zero_le _⟩ hP hD hS lk_X6 rfl hl.1 rfl (Nat.le_of_ble_eq_true rfl) dX6_readAct_23) (fun H locs hP hD hS => ?_)
    refine lv_if_eq (tgt := 34) hx hb dX6_readAct_26 (by decide) (fun c28 => ?_) (fun c28 => ?_)
    · replace hf := xsBr_t c28 hf
      refine lv_aload_n hx hb dX6_readAct_34 rfl (lv_at hl 1 rfl) ?_
      refine va_ldcS hx hb C.2.2.2.1 C.2.2.2.2.2.2.2.2.2.2.1.1.2.2.2.1 dX6_readAct_35 ?_
      replace hf := xsBd_use hf
      obtain ⟨o5, h6, hf⟩ := hf
      refine xs_calli hS (xs_runV (As := [.ref (xsSK X 3)]) C (mX6_readWord l (ks := 3) (by decide) h6) w_787 w_789 w_17 w_108 w_790 hd_X6_readWord ⟨rfl, rfl, Nat.le_of_ble_eq_true rfl, Nat.le_of_ble_eq_true rfl, Nat.zero_le _, Nat.zero_le _⟩ hP hD hS lk_X6 rfl hl.1 rfl (Nat.le_of_ble_eq_true rfl) dX6_readAct_37) (fun H locs hP hD hS => ?_)
      refine lv_if_eq (tgt := 49) hx hb dX6_readAct_40 (by decide) (fun c24 => ?_) (fun c24 => ?_)
      · replace hf := xsBr_t c24 hf
        refine lv_aload_n hx hb dX6_readAct_49 rfl (lv_at hl 1 rfl) ?_
        refine va_ldcS hx hb C.2.2.2.1 C.2.2.2.2.2.2.2.2.2.2.1.1.2.1 dX6_readAct_50 ?_
        replace hf := xsBd_use hf
        obtain ⟨o7, h8, hf⟩ := hf
        refine xs_calli hS (xs_runV (As := [.ref (xsSK X 1)]) C (mX6_readWord l (ks := 1) (by decide) h8) w_787 w_789 w_17 w_108 w_790 hd_X6_readWord ⟨rfl, rfl, Nat.le_of_ble_eq_true rfl, Nat.le_of_ble_eq_true rfl, Nat.zero_le _, Nat.zero_le _⟩ hP hD hS lk_X6 rfl hl.1 rfl (Nat.le_of_ble_eq_true rfl) dX6_readAct_52) (fun H locs hP hD hS => ?_)
        refine lv_if_eq (tgt := 63) hx hb dX6_readAct_55 (by decide) (fun c20 => ?_) (fun c20 => ?_)
        · replace hf := xsBr_t c20 hf
          refine lv_aload_n hx hb dX6_readAct_63 rfl (lv_at hl 1 rfl) ?_
          refine va_ldcS hx hb C.2.2.2.1 C.2.2.2.2.2.2.2.2.2.2.1.1.2.2.2.2.2 dX6_readAct_64 ?_
          replace hf := xsBd_use hf
          obtain ⟨o9, h10, hf⟩ := hf
          refine xs_calli hS (xs_runV (As := [.ref (xsSK X 5)]) C (mX6_readWord l (ks := 5) (by decide) h10) w_787 w_789 w_17 w_108 w_790 hd_X6_readWord ⟨rfl, rfl, Nat.le_of_ble_eq_true rfl, Nat.le_of_ble_eq_true rfl, Nat.zero_le _, Nat.zero_le _⟩ hP hD hS lk_X6 rfl hl.1 rfl (Nat.le_of_ble_eq_true rfl) dX6_readAct_66) (fun H locs hP hD hS => ?_)
          refine lv_if_eq (tgt := 81) hx hb dX6_readAct_69 (by decide) (fun c16 => ?_) (fun c16 => ?_)
          · replace hf := xsBr_t c16 hf
            refine lv_aload_n hx hb dX6_readAct_81 rfl (lv_at hl 1 rfl) ?_
            refine lv_iload_n hx hb dX6_readAct_82 rfl (lv_at hl 0 rfl) ?_
            replace hf := xsBd_use hf
            obtain ⟨o11, h12, hf⟩ := hf
            refine xs_calli hS (xs_runV (As := [.int scAt]) C (mX6_refuse l  h12) w_851 w_853 w_21 w_108 w_854 hd_X6_refuse ⟨rfl, rfl, Nat.le_of_ble_eq_true rfl, Nat.le_of_ble_eq_true rfl, Nat.zero_le _, Nat.zero_le _⟩ hP hD hS lk_X6 rfl hl.1 rfl (Nat.le_of_ble_eq_true rfl) dX6_readAct_83) (fun H locs hP hD hS => ?_)
            replace hf := xsCk_use hf
            obtain ⟨h13, hf⟩ := hf
            have ho := Option.some.inj hf
            subst ho
            rw [hQq]
            rw [← xsSu_self (hs_3)] at hP hD
            exact xs_zret C hr hlk h13 hP hD hS dX6_readAct_86
          · replace hf := xsBr_f c16 hf
            refine lv_aload_n hx hb dX6_readAct_72 rfl (lv_at hl 1 rfl) ?_
            refine xg_X6_22 C hP dX6_readAct_73 ?_
            replace hf := xsBd_use hf
            obtain ⟨o14, h15, hf⟩ := hf
            refine xs_callv hS (xs_runV (As := []) C (mX7_rotate l (js := 3) (by decide) hs_3 h15) w_902 w_528 w_529 w_106 w_530 hd_X7_rotate ⟨rfl, rfl, Nat.le_of_ble_eq_true rfl, Nat.le_of_ble_eq_true rfl, Nat.zero_le _, Nat.zero_le _⟩ hP hD hS (xs_lkS (by decide)) rfl hl.1 rfl (Nat.le_of_ble_eq_true rfl) dX6_readAct_76) (fun H locs hP hD hS => ?_)
            refine lv_iconst (v := (1 : Int32)) hx hb dX6_readAct_79 (by decide) ?_
            have ho := Option.some.inj hf
            subst ho
            rw [hQq]
            exact xs_zret C hr hlk xsB_1 hP hD hS dX6_readAct_80
        · replace hf := xsBr_f c20 hf
          refine lv_aload_n hx hb dX6_readAct_58 rfl (lv_at hl 1 rfl) ?_
          replace hf := xsBd_use hf
          obtain ⟨o17, h18, hf⟩ := hf
          refine xs_calli hS (xs_runV (As := []) C (mX6_readTint l hs_3 h18) w_897 w_899 w_25 w_108 w_900 hd_X6_readTint ⟨rfl, rfl, Nat.le_of_ble_eq_true rfl, Nat.le_of_ble_eq_true rfl, Nat.zero_le _, Nat.zero_le _⟩ hP hD hS lk_X6 rfl hl.1 rfl (Nat.le_of_ble_eq_true rfl) dX6_readAct_59) (fun H locs hP hD hS => ?_)
          replace hf := xsCk_use hf
          obtain ⟨h19, hf⟩ := hf
          have ho := Option.some.inj hf
          subst ho
          rw [hQq]
          exact xs_zret C hr hlk h19 hP hD hS dX6_readAct_62
      · replace hf := xsBr_f c24 hf
        refine lv_aload_n hx hb dX6_readAct_43 rfl (lv_at hl 1 rfl) ?_
        refine lv_iload_n hx hb dX6_readAct_44 rfl (lv_at hl 0 rfl) ?_
        replace hf := xsBd_use hf
        obtain ⟨o21, h22, hf⟩ := hf
        refine xs_calli hS (xs_runV (As := [.int scAt]) C (mX6_readMove l hs_3 h22) w_879 w_881 w_24 w_108 w_882 hd_X6_readMove ⟨rfl, rfl, Nat.le_of_ble_eq_true rfl, Nat.le_of_ble_eq_true rfl, Nat.zero_le _, Nat.zero_le _⟩ hP hD hS lk_X6 rfl hl.1 rfl (Nat.le_of_ble_eq_true rfl) dX6_readAct_45) (fun H locs hP hD hS => ?_)
        replace hf := xsCk_use hf
        obtain ⟨h23, hf⟩ := hf
        have ho := Option.some.inj hf
        subst ho
        rw [hQq]
        exact xs_zret C hr hlk h23 hP hD hS dX6_readAct_48
    · replace hf := xsBr_f c28 hf
      refine lv_aload_n hx hb dX6_readAct_29 rfl (lv_at hl 1 rfl) ?_
      replace hf := xsBd_use hf
      obtain ⟨o25, h26, hf⟩ := hf
      refine xs_calli hS (xs_runV (As := []) C (mX6_readCut l hs_3 h26) w_870 w_872 w_23 w_108 w_873 hd_X6_readCut ⟨rfl, rfl, Nat.le_of_ble_eq_true rfl, Nat.le_of_ble_eq_true rfl, Nat.zero_le _, Nat.zero_le _⟩ hP hD hS lk_X6 rfl hl.1 rfl (Nat.le_of_ble_eq_true rfl) dX6_readAct_30) (fun H locs hP hD hS => ?_)
      replace hf := xsCk_use hf
      obtain ⟨h27, hf⟩ := hf
      have ho := Option.some.inj hf
      subst ho
      rw [hQq]
      exact xs_zret C hr hlk h27 hP hD hS dX6_readAct_33
  · replace hf := xsBr_f c32 hf
    refine lv_aload_n hx hb dX6_readAct_14 rfl (lv_at hl 1 rfl) ?_
    refine lv_iload_n hx hb dX6_readAct_15 rfl (lv_at hl 0 rfl) ?_
    replace hf := xsBd_use hf
    obtain ⟨o29, h30, hf⟩ := hf
    refine xs_calli hS (xs_runV (As := [.int scAt]) C (mX6_readSeg l hs_3 h30) w_839 w_841 w_18 w_108 w_842 hd_X6_readSeg ⟨rfl, rfl, Nat.le_of_ble_eq_true rfl, Nat.le_of_ble_eq_true rfl, Nat.zero_le _, Nat.zero_le _⟩ hP hD hS lk_X6 rfl hl.1 rfl (Nat.le_of_ble_eq_true rfl) dX6_readAct_16) (fun H locs hP hD hS => ?_)
    replace hf := xsCk_use hf
    obtain ⟨h31, hf⟩ := hf
    have ho := Option.some.inj hf
    subst ho
    rw [hQq]
    exact xs_zret C hr hlk h31 hP hD hS dX6_readAct_19
set_option maxRecDepth 100000 in
set_option maxHeartbeats 8000000 in
theorem mX6_read (l : Launch) {X : xsX} {kIsKept kIsStale hiLatest hiSize scLength scFault scAt scNumber piSegmentsNow enKind enFromX enFromY enToX enToY tiMeetingPairs tiAlongPairs tiSize evSize evCrossings evSegmentsNow grEdges grQueued huSize huBestX huBestY : Int32} {scBytes scTold tiTouching tiLyingAlong evBundle evCrossingOf evEventOf evLeftEvent evRightEvent grDegree grFar grQueue huX huY : Nat → Int32} {enX enY enLower : Int64} {evX evY evLower : Nat → Int64} {S : Nat → xsV} {Rw : va_W} {js : Nat} (hjs : js < 12) (hs3 : js ≠ 3) {sLx sLy sRx sRy sTi : Nat → Int32} {sSz : Int32} (hs_s : S js = (sLx, sLy, sRx, sRy, sTi, sSz)) {g3Lx g3Ly g3Rx g3Ry g3Ti : Nat → Int32} {g3Sz : Int32} (hs_3 : S 3 = (g3Lx, g3Ly, g3Rx, g3Ry, g3Ti, g3Sz)) {out : Int32 × (Nat → Int32) × Int32 × Int32 × Int32 × Int32 × (Nat → Int32) × (Nat → Int32) × (Nat → Int32) × (Nat → Int32) × (Nat → Int32) × Int32} (hf : fX6_read scBytes scTold scLength scFault scAt scNumber sLx sLy sRx sRy sTi sSz g3Lx g3Ly g3Rx g3Ry g3Ti g3Sz = some out) : Met l yX6_read (xsWs yX6_read cX6_read 5 (some .int)) { frames := 7, cells := 0, slots := 0, locals := 153 } (xsP X (wK X kIsKept kIsStale hiLatest hiSize scBytes scTold scLength scFault scAt scNumber piSegmentsNow enKind enX enY enLower enFromX enFromY enToX enToY tiTouching tiLyingAlong tiMeetingPairs tiAlongPairs tiSize evX evY evLower evBundle evCrossingOf evEventOf evLeftEvent evRightEvent evSize evCrossings evSegmentsNow grDegree grEdges grFar grQueue grQueued huX huY huSize huBestX huBestY S Rw) [.ref (xsA X 3), .ref (xsA X (27 + 6 * js))]) (xsQi X out.1 (wK X kIsKept kIsStale hiLatest hiSize scBytes out.2.1 out.2.2.1 out.2.2.2.1 out.2.2.2.2.1 out.2.2.2.2.2.1 piSegmentsNow enKind enX enY enLower enFromX enFromY enToX enToY tiTouching tiLyingAlong tiMeetingPairs tiAlongPairs tiSize evX evY evLower evBundle evCrossingOf evEventOf evLeftEvent evRightEvent evSize evCrossings evSegmentsNow grDegree grEdges grFar grQueue grQueued huX huY huSize huBestX huBestY (xsSu S 3 (out.2.2.2.2.2.2.1, out.2.2.2.2.2.2.2.1, out.2.2.2.2.2.2.2.2.1, out.2.2.2.2.2.2.2.2.2.1, out.2.2.2.2.2.2.2.2.2.2.1, out.2.2.2.2.2.2.2.2.2.2.2)) Rw)) 0 0 (xsF X) := by
  refine xs_meth RX6 (by decide) rfl (Nat.le_of_ble_eq_true rfl) ?_
  intro p e s m below meth c ls H locs C hP hD hS hr hlk hl
  have hx := C.1
  have hb := C.2.1
  have hl : lv_has ls 5 [(0, .ref (xsA X 3)), (1, .ref (xsA X (27 + 6 * js)))] := hl
  obtain ⟨Qq, hQq⟩ : ∃ Qq, Qq = xsQi X out.1 (wK X kIsKept kIsStale hiLatest hiSize scBytes out.2.1 out.2.2.1 out.2.2.2.1 out.2.2.2.2.1 out.2.2.2.2.2.1 piSegmentsNow enKind enX enY enLower enFromX enFromY enToX enToY tiTouching tiLyingAlong tiMeetingPairs tiAlongPairs tiSize evX evY evLower evBundle evCrossingOf evEventOf evLeftEvent evRightEvent evSize evCrossings evSegmentsNow grDegree grEdges grFar grQueue grQueued huX huY huSize huBestX huBestY (xsSu S 3 (out.2.2.2.2.2.2.1, out.2.2.2.2.2.2.2.1, out.2.2.2.2.2.2.2.2.1, out.2.2.2.2.2.2.2.2.2.1, out.2.2.2.2.2.2.2.2.2.2.1, out.2.2.2.2.2.2.2.2.2.2.2)) Rw) := ⟨_, rfl⟩
  rw [← hQq]
  unfold fX6_read at hf
  refine lv_aload_n hx hb dX6_read_0 rfl (lv_at hl 0 rfl) ?_
  refine xg_X6_22 C hP dX6_read_1 ?_
  refine lv_aload_n hx hb dX6_read_4 rfl (lv_at hl 1 rfl) ?_
  replace hf := xsBd_use hf
  obtain ⟨o1, h2, hf⟩ := hf
  refine xs_callv hS (xs_runV (As := [.ref (xsA X (27 + 6 * js))]) C (mX7_copyFrom l (js := 3) (by decide) (jo := js) hjs hs3 hs_3 hs_s h2) w_777 w_517 w_518 w_106 w_519 hd_X7_copyFrom ⟨rfl, rfl, Nat.le_of_ble_eq_true rfl, Nat.le_of_ble_eq_true rfl, Nat.zero_le _, Nat.zero_le _⟩ hP hD hS (xs_lkS (by decide)) rfl hl.1 rfl (Nat.le_of_ble_eq_true rfl) dX6_read_5) (fun H locs hP hD hS => ?_)
  refine lv_aload_n hx hb dX6_read_8 rfl (lv_at hl 0 rfl) ?_
  refine lv_iconst (v := (-1 : Int32)) hx hb dX6_read_9 (by decide) ?_
  refine xp_X6_30 C hP hD hS dX6_read_10 (fun H locs hP hD hS => ?_)
  refine lv_aload_n hx hb dX6_read_13 rfl (lv_at hl 0 rfl) ?_
  refine lv_iconst (v := (0 : Int32)) hx hb dX6_read_14 (by decide) ?_
  refine xp_X6_33 C hP hD hS dX6_read_15 (fun H locs hP hD hS => ?_)
  refine lv_aload_n hx hb dX6_read_18 rfl (lv_at hl 0 rfl) ?_
  replace hf := xsBd_use hf
  obtain ⟨o3, h4, hf⟩ := hf
  refine xs_callv hS (xs_runV (As := []) C (mX6_skipBlanks l  h4) w_778 w_780 w_15 w_108 w_781 hd_X6_skipBlanks ⟨rfl, rfl, Nat.le_of_ble_eq_true rfl, Nat.le_of_ble_eq_true rfl, Nat.zero_le _, Nat.zero_le _⟩ hP hD hS lk_X6 rfl hl.1 rfl (Nat.le_of_ble_eq_true rfl) dX6_read_19) (fun H locs hP hD hS => ?_)
  refine lv_iconst (v := (0 : Int32)) hx hb dX6_read_22 (by decide) ?_
  refine lv_istore_n (lv' := [(2, .int (0 : Int32)), (0, .ref (xsA X 3)), (1, .ref (xsA X (27 + 6 * js)))]) hx hb dX6_read_23 rfl hl (by decide) rfl (fun ls hl => ?_)
  refine lv_aload_n hx hb dX6_read_24 rfl (lv_at hl 1 rfl) ?_
  refine xg_X6_33 C hP dX6_read_25 ?_
  refine lv_aload_n hx hb dX6_read_28 rfl (lv_at hl 1 rfl) ?_
  refine xg_X6_26 C hP dX6_read_29 ?_
  have K62 : ∀ (y5 : Int32) (hf : fX6_read_J40 scBytes scTold scLength scNumber o1 o3 y5 = some out) (H : Heap) (locs : List Loc) (ls : Array Slot), va_P (xsD X) vwCl (wK X kIsKept kIsStale hiLatest hiSize scBytes scTold scLength (-1 : Int32) o3 scNumber piSegmentsNow enKind enX enY enLower enFromX enFromY enToX enToY tiTouching tiLyingAlong tiMeetingPairs tiAlongPairs tiSize evX evY evLower evBundle evCrossingOf evEventOf evLeftEvent evRightEvent evSize evCrossings evSegmentsNow grDegree grEdges grFar grQueue grQueued huX huY huSize huBestX huBestY (xsSu S 3 (o1.1, o1.2.1, o1.2.2.1, o1.2.2.2.1, o1.2.2.2.2.1, o1.2.2.2.2.2)) Rw) H → va_D (xsF X) (wK X kIsKept kIsStale hiLatest hiSize scBytes scTold scLength (-1 : Int32) o3 scNumber piSegmentsNow enKind enX enY enLower enFromX enFromY enToX enToY tiTouching tiLyingAlong tiMeetingPairs tiAlongPairs tiSize evX evY evLower evBundle evCrossingOf evEventOf evLeftEvent evRightEvent evSize evCrossings evSegmentsNow grDegree grEdges grFar grQueue grQueued huX huY huSize huBestX huBestY (xsSu S 3 (o1.1, o1.2.1, o1.2.2.1, o1.2.2.2.1, o1.2.2.2.2.1, o1.2.2.2.2.2)) Rw) → va_S (xsF X) s.heap H locs → lv_has ls 5 [(0, .ref (xsA X 3)), (2, .int (0 : Int32))] → W p l e { frames := 7, cells := 0, slots := 0, locals := 153 } s m ([.ref (xsA X 3), .ref (xsA X (27 + 6 * js))] : List Value).toArray below meth c H locs 0 0 (MQ below Qq ([.ref (xsA X 3), .ref (xsA X (27 + 6 * js))] : List Value).toArray s 0 0 (xsF X)) (F0 m 40 ls [.int y5]) := by
    intro y5 hf H locs ls hP hD hS hl
    unfold fX6_read_J40 at hf
    refine lv_istore_n (lv' := [(3, .int y5), (0, .ref (xsA X 3)), (2, .int (0 : Int32))]) hx hb dX6_read_40 rfl hl (by decide) rfl (fun ls hl => ?_)
    refine lv_iconst (v := (0 : Int32)) hx hb dX6_read_41 (by decide) ?_
    refine lv_istore (lv' := [(4, .int (0 : Int32)), (3, .int y5), (0, .ref (xsA X 3)), (2, .int (0 : Int32))]) hx hb dX6_read_42 hl (by decide) rfl (fun ls hl => ?_)
    have K19 : ∀ (y20 : Int32) (y21 : Nat → Int32) (y22 : Int32) (y23 : Int32) (y24 : Int32) (y25 : Nat → Int32) (y26 : Nat → Int32) (y27 : Nat → Int32) (y28 : Nat → Int32) (y29 : Nat → Int32) (y30 : Int32) (hf : fX6_read_J106 y20 y21 y22 y23 y24 y25 y26 y27 y28 y29 y30 = some out) (H : Heap) (locs : List Loc) (ls : Array Slot), va_P (xsD X) vwCl (wK X kIsKept kIsStale hiLatest hiSize scBytes y21 scLength y22 y23 y24 piSegmentsNow enKind enX enY enLower enFromX enFromY enToX enToY tiTouching tiLyingAlong tiMeetingPairs tiAlongPairs tiSize evX evY evLower evBundle evCrossingOf evEventOf evLeftEvent evRightEvent evSize evCrossings evSegmentsNow grDegree grEdges grFar grQueue grQueued huX huY huSize huBestX huBestY (xsSu S 3 (y25, y26, y27, y28, y29, y30)) Rw) H → va_D (xsF X) (wK X kIsKept kIsStale hiLatest hiSize scBytes y21 scLength y22 y23 y24 piSegmentsNow enKind enX enY enLower enFromX enFromY enToX enToY tiTouching tiLyingAlong tiMeetingPairs tiAlongPairs tiSize evX evY evLower evBundle evCrossingOf evEventOf evLeftEvent evRightEvent evSize evCrossings evSegmentsNow grDegree grEdges grFar grQueue grQueued huX huY huSize huBestX huBestY (xsSu S 3 (y25, y26, y27, y28, y29, y30)) Rw) → va_S (xsF X) s.heap H locs → lv_has ls 5 [(0, .ref (xsA X 3)), (2, .int y20)] → W p l e { frames := 7, cells := 0, slots := 0, locals := 153 } s m ([.ref (xsA X 3), .ref (xsA X (27 + 6 * js))] : List Value).toArray below meth c H locs 0 0 (MQ below Qq ([.ref (xsA X 3), .ref (xsA X (27 + 6 * js))] : List Value).toArray s 0 0 (xsF X)) (F0 m 106 ls []) := by
      intro y20 y21 y22 y23 y24 y25 y26 y27 y28 y29 y30 hf H locs ls hP hD hS hl
      unfold fX6_read_J106 at hf
      refine lv_aload_n hx hb dX6_read_106 rfl (lv_at hl 0 rfl) ?_
      refine lv_iconst (v := (0 : Int32)) hx hb dX6_read_107 (by decide) ?_
      refine xp_X6_26 C hP hD hS dX6_read_108 (fun H locs hP hD hS => ?_)
      refine lv_iload_n hx hb dX6_read_111 rfl (lv_at hl 1 rfl) ?_
      have ho := Option.some.inj hf
      subst ho
      rw [hQq]
      exact xs_iret C hr hlk hP hD hS dX6_read_112
    replace hf := xsBd_use hf
    obtain ⟨r19, hk190, hf⟩ := hf
    have L19 : ∀ (sg : Int32 × Int32 × Int32 × (Nat → Int32) × Int32 × Int32 × Int32 × (Nat → Int32) × (Nat → Int32) × (Nat → Int32) × (Nat → Int32) × (Nat → Int32) × Int32) (rg : Int32 × (Nat → Int32) × Int32 × Int32 × Int32 × (Nat → Int32) × (Nat → Int32) × (Nat → Int32) × (Nat → Int32) × (Nat → Int32) × Int32), xsWh (fun s19 => fX6_read_L44 scBytes scLength s19.1 s19.2.1 s19.2.2.1 s19.2.2.2.1 s19.2.2.2.2.1 s19.2.2.2.2.2.1 s19.2.2.2.2.2.2.1 s19.2.2.2.2.2.2.2.1 s19.2.2.2.2.2.2.2.2.1 s19.2.2.2.2.2.2.2.2.2.1 s19.2.2.2.2.2.2.2.2.2.2.1 s19.2.2.2.2.2.2.2.2.2.2.2.1 s19.2.2.2.2.2.2.2.2.2.2.2.2) sg = some rg → (fX6_read_J106 rg.1 rg.2.1 rg.2.2.1 rg.2.2.2.1 rg.2.2.2.2.1 rg.2.2.2.2.2.1 rg.2.2.2.2.2.2.1 rg.2.2.2.2.2.2.2.1 rg.2.2.2.2.2.2.2.2.1 rg.2.2.2.2.2.2.2.2.2.1 rg.2.2.2.2.2.2.2.2.2.2 = some out → ∀ (H : Heap) (locs : List Loc) (ls : Array Slot), va_P (xsD X) vwCl (wK X kIsKept kIsStale hiLatest hiSize scBytes sg.2.2.2.1 scLength sg.2.2.2.2.1 sg.2.2.2.2.2.1 sg.2.2.2.2.2.2.1 piSegmentsNow enKind enX enY enLower enFromX enFromY enToX enToY tiTouching tiLyingAlong tiMeetingPairs tiAlongPairs tiSize evX evY evLower evBundle evCrossingOf evEventOf evLeftEvent evRightEvent evSize evCrossings evSegmentsNow grDegree grEdges grFar grQueue grQueued huX huY huSize huBestX huBestY (xsSu S 3 (sg.2.2.2.2.2.2.2.1, sg.2.2.2.2.2.2.2.2.1, sg.2.2.2.2.2.2.2.2.2.1, sg.2.2.2.2.2.2.2.2.2.2.1, sg.2.2.2.2.2.2.2.2.2.2.2.1, sg.2.2.2.2.2.2.2.2.2.2.2.2)) Rw) H → va_D (xsF X) (wK X kIsKept kIsStale hiLatest hiSize scBytes sg.2.2.2.1 scLength sg.2.2.2.2.1 sg.2.2.2.2.2.1 sg.2.2.2.2.2.2.1 piSegmentsNow enKind enX enY enLower enFromX enFromY enToX enToY tiTouching tiLyingAlong tiMeetingPairs tiAlongPairs tiSize evX evY evLower evBundle evCrossingOf evEventOf evLeftEvent evRightEvent evSize evCrossings evSegmentsNow grDegree grEdges grFar grQueue grQueued huX huY huSize huBestX huBestY (xsSu S 3 (sg.2.2.2.2.2.2.2.1, sg.2.2.2.2.2.2.2.2.1, sg.2.2.2.2.2.2.2.2.2.1, sg.2.2.2.2.2.2.2.2.2.2.1, sg.2.2.2.2.2.2.2.2.2.2.2.1, sg.2.2.2.2.2.2.2.2.2.2.2.2)) Rw) → va_S (xsF X) s.heap H locs → lv_has ls 5 [(0, .ref (xsA X 3)), (2, .int sg.1), (3, .int sg.2.1), (4, .int sg.2.2.1)] → W p l e { frames := 7, cells := 0, slots := 0, locals := 153 } s m ([.ref (xsA X 3), .ref (xsA X (27 + 6 * js))] : List Value).toArray below meth c H locs 0 0 (MQ below Qq ([.ref (xsA X 3), .ref (xsA X (27 + 6 * js))] : List Value).toArray s 0 0 (xsF X)) (F0 m 44 ls [])) := by
      refine xsWh_ind ?_
      intro sg r19 u19 hf ih19 hx19 hk19 H locs ls hP hD hS hl
      obtain ⟨y6, y7, y8, y9, y10, y11, y12, y13, y14, y15, y16, y17, y18⟩ := sg
      replace hf : fX6_read_L44 scBytes scLength y6 y7 y8 y9 y10 y11 y12 y13 y14 y15 y16 y17 y18 = some u19 := hf
      replace hl : lv_has ls 5 [(0, .ref (xsA X 3)), (2, .int y6), (3, .int y7), (4, .int y8)] := hl
      replace hP : va_P (xsD X) vwCl (wK X kIsKept kIsStale hiLatest hiSize scBytes y9 scLength y10 y11 y12 piSegmentsNow enKind enX enY enLower enFromX enFromY enToX enToY tiTouching tiLyingAlong tiMeetingPairs tiAlongPairs tiSize evX evY evLower evBundle evCrossingOf evEventOf evLeftEvent evRightEvent evSize evCrossings evSegmentsNow grDegree grEdges grFar grQueue grQueued huX huY huSize huBestX huBestY (xsSu S 3 (y13, y14, y15, y16, y17, y18)) Rw) H := hP
      replace hD : va_D (xsF X) (wK X kIsKept kIsStale hiLatest hiSize scBytes y9 scLength y10 y11 y12 piSegmentsNow enKind enX enY enLower enFromX enFromY enToX enToY tiTouching tiLyingAlong tiMeetingPairs tiAlongPairs tiSize evX evY evLower evBundle evCrossingOf evEventOf evLeftEvent evRightEvent evSize evCrossings evSegmentsNow grDegree grEdges grFar grQueue grQueued huX huY huSize huBestX huBestY (xsSu S 3 (y13, y14, y15, y16, y17, y18)) Rw) := hD
      unfold fX6_read_L44 at hf
      refine lv_iload hx hb dX6_read_44 (lv_at hl 3 rfl) ?_
      refine lv_bipush (v := (14 : Int32)) hx hb dX6_read_46 (by decide) ?_
      refine lv_icmp_gt (tgt := 106) hx hb dX6_read_48 (by decide) (fun c59 => ?_) (fun c59 => ?_)
      · replace hf := xsBr_t c59 hf
        have ez := hx19 _ (Option.some.inj hf).symm
        subst ez
        exact K19 y6 y9 y10 y11 y12 y13 y14 y15 y16 y17 y18 hk19 H locs ls hP hD hS (lv_sub hl [0, 1] rfl)
      · replace hf := xsBr_f c59 hf
        refine lv_iload_n hx hb dX6_read_51 rfl (lv_at hl 2 rfl) ?_
        refine lv_if_eq (tgt := 106) hx hb dX6_read_52 (by decide) (fun c58 => ?_) (fun c58 => ?_)
        · replace hf := xsBr_t c58 hf
          have ez := hx19 _ (Option.some.inj hf).symm
          subst ez
          exact K19 y6 y9 y10 y11 y12 y13 y14 y15 y16 y17 y18 hk19 H locs ls hP hD hS (lv_sub hl [0, 1] rfl)
        · replace hf := xsBr_f c58 hf
          refine lv_aload_n hx hb dX6_read_55 rfl (lv_at hl 0 rfl) ?_
          replace hf := xsBd_use hf
          obtain ⟨o31, h32, hf⟩ := hf
          refine xs_callv hS (xs_runV (As := []) C (mX6_skipBlanks l  h32) w_778 w_780 w_15 w_108 w_781 hd_X6_skipBlanks ⟨rfl, rfl, Nat.le_of_ble_eq_true rfl, Nat.le_of_ble_eq_true rfl, Nat.zero_le _, Nat.zero_le _⟩ hP hD hS lk_X6 rfl hl.1 rfl (Nat.le_of_ble_eq_true rfl) dX6_read_56) (fun H locs hP hD hS => ?_)
          refine lv_iload hx hb dX6_read_59 (lv_at hl 3 rfl) ?_
          refine lv_bipush (v := (14 : Int32)) hx hb dX6_read_61 (by decide) ?_
          have K48 : ∀ (y33 : Int32) (y34 : Nat → Int32) (y35 : Int32) (y36 : Int32) (y37 : Int32) (y38 : Nat → Int32) (y39 : Nat → Int32) (y40 : Nat → Int32) (y41 : Nat → Int32) (y42 : Nat → Int32) (y43 : Int32) (hf : fX6_read_J96 y6 y8 y33 y34 y35 y36 y37 y38 y39 y40 y41 y42 y43 = some u19) (H : Heap) (locs : List Loc) (ls : Array Slot), va_P (xsD X) vwCl (wK X kIsKept kIsStale hiLatest hiSize scBytes y34 scLength y35 y36 y37 piSegmentsNow enKind enX enY enLower enFromX enFromY enToX enToY tiTouching tiLyingAlong tiMeetingPairs tiAlongPairs tiSize evX evY evLower evBundle evCrossingOf evEventOf evLeftEvent evRightEvent evSize evCrossings evSegmentsNow grDegree grEdges grFar grQueue grQueued huX huY huSize huBestX huBestY (xsSu S 3 (y38, y39, y40, y41, y42, y43)) Rw) H → va_D (xsF X) (wK X kIsKept kIsStale hiLatest hiSize scBytes y34 scLength y35 y36 y37 piSegmentsNow enKind enX enY enLower enFromX enFromY enToX enToY tiTouching tiLyingAlong tiMeetingPairs tiAlongPairs tiSize evX evY evLower evBundle evCrossingOf evEventOf evLeftEvent evRightEvent evSize evCrossings evSegmentsNow grDegree grEdges grFar grQueue grQueued huX huY huSize huBestX huBestY (xsSu S 3 (y38, y39, y40, y41, y42, y43)) Rw) → va_S (xsF X) s.heap H locs → lv_has ls 5 [(0, .ref (xsA X 3)), (2, .int y6), (4, .int y8)] → W p l e { frames := 7, cells := 0, slots := 0, locals := 153 } s m ([.ref (xsA X 3), .ref (xsA X (27 + 6 * js))] : List Value).toArray below meth c H locs 0 0 (MQ below Qq ([.ref (xsA X 3), .ref (xsA X (27 + 6 * js))] : List Value).toArray s 0 0 (xsF X)) (F0 m 96 ls [.int y33]) := by
            intro y33 y34 y35 y36 y37 y38 y39 y40 y41 y42 y43 hf H locs ls hP hD hS hl
            unfold fX6_read_J96 at hf
            refine lv_istore_n (lv' := [(3, .int y33), (0, .ref (xsA X 3)), (2, .int y6), (4, .int y8)]) hx hb dX6_read_96 rfl hl (by decide) rfl (fun ls hl => ?_)
            obtain ⟨x44, ex44⟩ : ∃ y : Int32, y = y6 + (1 : Int32) := ⟨_, rfl⟩
            replace hf := xsLt_use ex44 hf
            refine lv_iinc (v := x44) (lv' := [(2, .int x44), (3, .int y33), (0, .ref (xsA X 3)), (4, .int y8)]) hx hb dX6_read_97 hl (k := 2) rfl (by rw [ex44]; rfl) (by decide) rfl (fun ls hl => ?_)
            obtain ⟨x45, ex45⟩ : ∃ y : Int32, y = y8 + (1 : Int32) := ⟨_, rfl⟩
            replace hf := xsLt_use ex45 hf
            refine lv_iinc (v := x45) (lv' := [(4, .int x45), (2, .int x44), (3, .int y33), (0, .ref (xsA X 3))]) hx hb dX6_read_100 hl (k := 3) rfl (by rw [ex45]; rfl) (by decide) rfl (fun ls hl => ?_)
            refine lv_goto (tgt := 44) hx hb dX6_read_103 (by decide) ?_
            exact ih19 _ (Option.some.inj hf).symm hk19 H locs ls hP hD hS (lv_sub hl [3, 1, 2, 0] rfl)
          replace hf := xsBd_use hf
          obtain ⟨v46, hf, hk47⟩ := hf
          refine lv_icmp_ge (tgt := 88) hx hb dX6_read_63 (by decide) (fun c57 => ?_) (fun c57 => ?_)
          · replace hf := xsBr_t c57 hf
            refine lv_aload_n hx hb dX6_read_88 rfl (lv_at hl 0 rfl) ?_
            refine lv_aload_n hx hb dX6_read_89 rfl (lv_at hl 0 rfl) ?_
            refine xg_X6_33 C hP dX6_read_90 ?_
            replace hf := xsBd_use hf
            obtain ⟨o49, h50, hf⟩ := hf
            refine xs_calli hS (xs_runV (As := [.int o31]) C (mX6_refuse l  h50) w_851 w_853 w_21 w_108 w_854 hd_X6_refuse ⟨rfl, rfl, Nat.le_of_ble_eq_true rfl, Nat.le_of_ble_eq_true rfl, Nat.zero_le _, Nat.zero_le _⟩ hP hD hS lk_X6 rfl hl.1 rfl (Nat.le_of_ble_eq_true rfl) dX6_read_93) (fun H locs hP hD hS => ?_)
            have ev := Option.some.inj hf
            subst ev
            exact K48 o49.1 y9 o49.2 o31 y12 y13 y14 y15 y16 y17 y18 hk47 H locs ls hP hD hS (lv_sub hl [0, 1, 3] rfl)
          · replace hf := xsBr_f c57 hf
            refine lv_aload_n hx hb dX6_read_66 rfl (lv_at hl 0 rfl) ?_
            replace hf := xsBd_use hf
            obtain ⟨o51, h52, hf⟩ := hf
            refine xs_calli hS (xs_runV (As := []) C (mX6_readAct l (xsSu_eq _ _ _) h52) w_782 w_784 w_16 w_108 w_785 hd_X6_readAct ⟨rfl, rfl, Nat.le_of_ble_eq_true rfl, Nat.le_of_ble_eq_true rfl, Nat.zero_le _, Nat.zero_le _⟩ hP hD hS lk_X6 rfl hl.1 rfl (Nat.le_of_ble_eq_true rfl) dX6_read_67) (fun H locs hP hD hS => ?_)
            rw [xsSu_up] at hP hD
            refine lv_if_eq (tgt := 84) hx hb dX6_read_70 (by decide) (fun c56 => ?_) (fun c56 => ?_)
            · replace hf := xsBr_t c56 hf
              refine lv_iconst (v := (0 : Int32)) hx hb dX6_read_84 (by decide) ?_
              refine lv_goto (tgt := 96) hx hb dX6_read_85 (by decide) ?_
              have ev := Option.some.inj hf
              subst ev
              exact K48 (0 : Int32) o51.2.1 o51.2.2.1 o51.2.2.2.1 o51.2.2.2.2.1 o51.2.2.2.2.2.1 o51.2.2.2.2.2.2.1 o51.2.2.2.2.2.2.2.1 o51.2.2.2.2.2.2.2.2.1 o51.2.2.2.2.2.2.2.2.2.1 o51.2.2.2.2.2.2.2.2.2.2 hk47 H locs ls hP hD hS (lv_sub hl [0, 1, 3] rfl)
            · replace hf := xsBr_f c56 hf
              refine lv_aload_n hx hb dX6_read_73 rfl (lv_at hl 0 rfl) ?_
              replace hf := xsBd_use hf
              obtain ⟨o53, h54, hf⟩ := hf
              refine xs_calli hS (xs_runV (As := []) C (mX6_readBreak l  h54) w_903 w_905 w_26 w_108 w_906 hd_X6_readBreak ⟨rfl, rfl, Nat.le_of_ble_eq_true rfl, Nat.le_of_ble_eq_true rfl, Nat.zero_le _, Nat.zero_le _⟩ hP hD hS lk_X6 rfl hl.1 rfl (Nat.le_of_ble_eq_true rfl) dX6_read_74) (fun H locs hP hD hS => ?_)
              refine lv_if_eq (tgt := 84) hx hb dX6_read_77 (by decide) (fun c55 => ?_) (fun c55 => ?_)
              · replace hf := xsBr_t c55 hf
                refine lv_iconst (v := (0 : Int32)) hx hb dX6_read_84 (by decide) ?_
                refine lv_goto (tgt := 96) hx hb dX6_read_85 (by decide) ?_
                have ev := Option.some.inj hf
                subst ev
                exact K48 (0 : Int32) o51.2.1 o53.2.1 o53.2.2 o51.2.2.2.2.1 o51.2.2.2.2.2.1 o51.2.2.2.2.2.2.1 o51.2.2.2.2.2.2.2.1 o51.2.2.2.2.2.2.2.2.1 o51.2.2.2.2.2.2.2.2.2.1 o51.2.2.2.2.2.2.2.2.2.2 hk47 H locs ls hP hD hS (lv_sub hl [0, 1, 3] rfl)
              · replace hf := xsBr_f c55 hf
                refine lv_iconst (v := (1 : Int32)) hx hb dX6_read_80 (by decide) ?_
                refine lv_goto (tgt := 96) hx hb dX6_read_81 (by decide) ?_
                have ev := Option.some.inj hf
                subst ev
                exact K48 (1 : Int32) o51.2.1 o53.2.1 o53.2.2 o51.2.2.2.2.1 o51.2.2.2.2.2.1 o51.2.2.2.2.2.2.1 o51.2.2.2.2.2.2.2.1 o51.2.2.2.2.2.2.2.2.1 o51.2.2.2.2.2.2.2.2.2.1 o51.2.2.2.2.2.2.2.2.2.2 hk47 H locs ls hP hD hS (lv_sub hl [0, 1, 3] rfl)
    exact L19 ((0 : Int32), y5, (0 : Int32), scTold, (-1 : Int32), o3, scNumber, o1.1, o1.2.1, o1.2.2.1, o1.2.2.2.1, o1.2.2.2.2.1, o1.2.2.2.2.2) r19 hk190 hf H locs ls hP hD hS (lv_sub hl [2, 3, 1, 0] rfl)
  replace hf := xsBd_use hf
  obtain ⟨v60, hf, hk61⟩ := hf
  refine lv_icmp_ge (tgt := 39) hx hb dX6_read_32 (by decide) (fun c63 => ?_) (fun c63 => ?_)
  · replace hf := xsBr_t c63 hf
    refine lv_iconst (v := (0 : Int32)) hx hb dX6_read_39 (by decide) ?_
    have ev := Option.some.inj hf
    subst ev
    exact K62 (0 : Int32) hk61 H locs ls hP hD hS (lv_sub hl [1, 0] rfl)
  · replace hf := xsBr_f c63 hf
    refine lv_iconst (v := (1 : Int32)) hx hb dX6_read_35 (by decide) ?_
    refine lv_goto (tgt := 40) hx hb dX6_read_36 (by decide) ?_
    have ev := Option.some.inj hf
    subst ev
    exact K62 (1 : Int32) hk61 H locs ls hP hD hS (lv_sub hl [1, 0] rfl)
