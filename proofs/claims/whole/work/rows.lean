section
-- ===== PART A: goes FIRST, ahead of the names: the tables' words, and 'selects' of the private methods out of them =====
/-- a private method of a class that the tables say can be made, by its rows of tables_1 -/
def lw_okq (q : MethodName × Nat) : Prop := (q.1.cls ≠ "java/lang/invoke/MethodHandle" ∧ q.1.cls ≠ "java/lang/invoke/VarHandle") ∧ Cond.instantiable q.1.cls q.2 ∈ tables_1 ∧ Cond.privateMethod q.1 ∈ tables_1 ∧ Cond.instanceMethod q.1 ∈ tables_1
theorem lw_p0 : lw_okq (⟨"ShakePictures", "isBlock", "(I)Z"⟩, 9) := ⟨⟨by decide +kernel, by decide +kernel⟩, List.mem_of_getElem? (i := 22) (by decide +kernel), List.mem_of_getElem? (i := 473) (by decide +kernel), List.mem_of_getElem? (i := 474) (by decide +kernel)⟩
theorem lw_p1 : lw_okq (⟨"ShakePictures", "isCell", "(I)Z"⟩, 9) := ⟨⟨by decide +kernel, by decide +kernel⟩, List.mem_of_getElem? (i := 22) (by decide +kernel), List.mem_of_getElem? (i := 516) (by decide +kernel), List.mem_of_getElem? (i := 517) (by decide +kernel)⟩
theorem lw_p2 : lw_okq (⟨"ShakePictures$Ground", "pull", "(I)Z"⟩, 9) := ⟨⟨by decide +kernel, by decide +kernel⟩, List.mem_of_getElem? (i := 30) (by decide +kernel), List.mem_of_getElem? (i := 536) (by decide +kernel), List.mem_of_getElem? (i := 537) (by decide +kernel)⟩
theorem lw_p3 : lw_okq (⟨"ShakePictures$Ground", "nextOnWay", "(I)I"⟩, 9) := ⟨⟨by decide +kernel, by decide +kernel⟩, List.mem_of_getElem? (i := 30) (by decide +kernel), List.mem_of_getElem? (i := 548) (by decide +kernel), List.mem_of_getElem? (i := 549) (by decide +kernel)⟩
theorem lw_p4 : lw_okq (⟨"ShakePictures", "isEar", "(I)Z"⟩, 9) := ⟨⟨by decide +kernel, by decide +kernel⟩, List.mem_of_getElem? (i := 22) (by decide +kernel), List.mem_of_getElem? (i := 564) (by decide +kernel), List.mem_of_getElem? (i := 565) (by decide +kernel)⟩
theorem lw_p5 : lw_okq (⟨"ShakePictures", "isShake", "(I)Z"⟩, 9) := ⟨⟨by decide +kernel, by decide +kernel⟩, List.mem_of_getElem? (i := 22) (by decide +kernel), List.mem_of_getElem? (i := 584) (by decide +kernel), List.mem_of_getElem? (i := 585) (by decide +kernel)⟩
theorem lw_p6 : lw_okq (⟨"ShakePictures", "isPick", "(I)Z"⟩, 9) := ⟨⟨by decide +kernel, by decide +kernel⟩, List.mem_of_getElem? (i := 22) (by decide +kernel), List.mem_of_getElem? (i := 608) (by decide +kernel), List.mem_of_getElem? (i := 609) (by decide +kernel)⟩
theorem lw_p7 : lw_okq (⟨"ShakePictures$Fitter", "improve", "(I)I"⟩, 9) := ⟨⟨by decide +kernel, by decide +kernel⟩, List.mem_of_getElem? (i := 200) (by decide +kernel), List.mem_of_getElem? (i := 685) (by decide +kernel), List.mem_of_getElem? (i := 686) (by decide +kernel)⟩
theorem lw_p8 : lw_okq (⟨"ShakePictures$Fitter", "gatherMembers", "(II)V"⟩, 9) := ⟨⟨by decide +kernel, by decide +kernel⟩, List.mem_of_getElem? (i := 200) (by decide +kernel), List.mem_of_getElem? (i := 690) (by decide +kernel), List.mem_of_getElem? (i := 691) (by decide +kernel)⟩
theorem lw_p9 : lw_okq (⟨"ShakePictures$Fitter", "tabulate", "(III)V"⟩, 9) := ⟨⟨by decide +kernel, by decide +kernel⟩, List.mem_of_getElem? (i := 200) (by decide +kernel), List.mem_of_getElem? (i := 694) (by decide +kernel), List.mem_of_getElem? (i := 695) (by decide +kernel)⟩
theorem lw_p10 : lw_okq (⟨"ShakePictures$Fitter", "measure", "(IIII)V"⟩, 9) := ⟨⟨by decide +kernel, by decide +kernel⟩, List.mem_of_getElem? (i := 200) (by decide +kernel), List.mem_of_getElem? (i := 698) (by decide +kernel), List.mem_of_getElem? (i := 699) (by decide +kernel)⟩
theorem lw_p11 : lw_okq (⟨"ShakePictures$Fitter", "isStraight", "(IIII)Z"⟩, 9) := ⟨⟨by decide +kernel, by decide +kernel⟩, List.mem_of_getElem? (i := 200) (by decide +kernel), List.mem_of_getElem? (i := 702) (by decide +kernel), List.mem_of_getElem? (i := 703) (by decide +kernel)⟩
theorem lw_p12 : lw_okq (⟨"ShakePictures$Fitter", "fillLine", "(III)V"⟩, 9) := ⟨⟨by decide +kernel, by decide +kernel⟩, List.mem_of_getElem? (i := 200) (by decide +kernel), List.mem_of_getElem? (i := 707) (by decide +kernel), List.mem_of_getElem? (i := 708) (by decide +kernel)⟩
theorem lw_p13 : lw_okq (⟨"ShakePictures$Fitter", "addMisfits", "(I)V"⟩, 9) := ⟨⟨by decide +kernel, by decide +kernel⟩, List.mem_of_getElem? (i := 200) (by decide +kernel), List.mem_of_getElem? (i := 711) (by decide +kernel), List.mem_of_getElem? (i := 712) (by decide +kernel)⟩
theorem lw_p14 : lw_okq (⟨"ShakePictures$Press", "narrow", "(I)Z"⟩, 7) := ⟨⟨by decide +kernel, by decide +kernel⟩, List.mem_of_getElem? (i := 235) (by decide +kernel), List.mem_of_getElem? (i := 749) (by decide +kernel), List.mem_of_getElem? (i := 750) (by decide +kernel)⟩
theorem lw_p15 : lw_okq (⟨"ShakePictures$Basis", "firstColumn", "()I"⟩, 4) := ⟨⟨by decide +kernel, by decide +kernel⟩, List.mem_of_getElem? (i := 271) (by decide +kernel), List.mem_of_getElem? (i := 797) (by decide +kernel), List.mem_of_getElem? (i := 798) (by decide +kernel)⟩
def lw_privs_1 : List (MethodName × Nat) := [(⟨"ShakePictures", "isBlock", "(I)Z"⟩, 9), (⟨"ShakePictures", "isCell", "(I)Z"⟩, 9), (⟨"ShakePictures$Ground", "pull", "(I)Z"⟩, 9), (⟨"ShakePictures$Ground", "nextOnWay", "(I)I"⟩, 9), (⟨"ShakePictures", "isEar", "(I)Z"⟩, 9), (⟨"ShakePictures", "isShake", "(I)Z"⟩, 9), (⟨"ShakePictures", "isPick", "(I)Z"⟩, 9), (⟨"ShakePictures$Fitter", "improve", "(I)I"⟩, 9), (⟨"ShakePictures$Fitter", "gatherMembers", "(II)V"⟩, 9), (⟨"ShakePictures$Fitter", "tabulate", "(III)V"⟩, 9), (⟨"ShakePictures$Fitter", "measure", "(IIII)V"⟩, 9), (⟨"ShakePictures$Fitter", "isStraight", "(IIII)Z"⟩, 9), (⟨"ShakePictures$Fitter", "fillLine", "(III)V"⟩, 9), (⟨"ShakePictures$Fitter", "addMisfits", "(I)V"⟩, 9), (⟨"ShakePictures$Press", "narrow", "(I)Z"⟩, 7), (⟨"ShakePictures$Basis", "firstColumn", "()I"⟩, 4)]
theorem lw_r1 : ∀ q ∈ lw_privs_1, lw_okq q := List.forall_mem_cons.mpr ⟨lw_p0, List.forall_mem_cons.mpr ⟨lw_p1, List.forall_mem_cons.mpr ⟨lw_p2, List.forall_mem_cons.mpr ⟨lw_p3, List.forall_mem_cons.mpr ⟨lw_p4, List.forall_mem_cons.mpr ⟨lw_p5, List.forall_mem_cons.mpr ⟨lw_p6, List.forall_mem_cons.mpr ⟨lw_p7, List.forall_mem_cons.mpr ⟨lw_p8, List.forall_mem_cons.mpr ⟨lw_p9, List.forall_mem_cons.mpr ⟨lw_p10, List.forall_mem_cons.mpr ⟨lw_p11, List.forall_mem_cons.mpr ⟨lw_p12, List.forall_mem_cons.mpr ⟨lw_p13, List.forall_mem_cons.mpr ⟨lw_p14, List.forall_mem_cons.mpr ⟨lw_p15, fun _ h => absurd h List.not_mem_nil⟩⟩⟩⟩⟩⟩⟩⟩⟩⟩⟩⟩⟩⟩⟩⟩
theorem lw_p16 : lw_okq (⟨"ShakePictures$Resolver", "resolvedWith", "(I)I"⟩, 8) := ⟨⟨by decide +kernel, by decide +kernel⟩, List.mem_of_getElem? (i := 265) (by decide +kernel), List.mem_of_getElem? (i := 824) (by decide +kernel), List.mem_of_getElem? (i := 825) (by decide +kernel)⟩
theorem lw_p17 : lw_okq (⟨"ShakePictures$Finder", "gatherBegun", "(II)V"⟩, 7) := ⟨⟨by decide +kernel, by decide +kernel⟩, List.mem_of_getElem? (i := 323) (by decide +kernel), List.mem_of_getElem? (i := 848) (by decide +kernel), List.mem_of_getElem? (i := 849) (by decide +kernel)⟩
theorem lw_p18 : lw_okq (⟨"ShakePictures$Finder", "addSpan", "(II)V"⟩, 7) := ⟨⟨by decide +kernel, by decide +kernel⟩, List.mem_of_getElem? (i := 323) (by decide +kernel), List.mem_of_getElem? (i := 855) (by decide +kernel), List.mem_of_getElem? (i := 856) (by decide +kernel)⟩
theorem lw_p19 : lw_okq (⟨"ShakePictures$Finder", "countFitting", "(I)I"⟩, 7) := ⟨⟨by decide +kernel, by decide +kernel⟩, List.mem_of_getElem? (i := 323) (by decide +kernel), List.mem_of_getElem? (i := 861) (by decide +kernel), List.mem_of_getElem? (i := 862) (by decide +kernel)⟩
theorem lw_p20 : lw_okq (⟨"ShakePictures$Script", "advance", "()V"⟩, 12) := ⟨⟨by decide +kernel, by decide +kernel⟩, List.mem_of_getElem? (i := 353) (by decide +kernel), List.mem_of_getElem? (i := 940) (by decide +kernel), List.mem_of_getElem? (i := 941) (by decide +kernel)⟩
theorem lw_p21 : lw_okq (⟨"ShakePictures$Script", "sortAt", "(I)I"⟩, 12) := ⟨⟨by decide +kernel, by decide +kernel⟩, List.mem_of_getElem? (i := 353) (by decide +kernel), List.mem_of_getElem? (i := 944) (by decide +kernel), List.mem_of_getElem? (i := 945) (by decide +kernel)⟩
theorem lw_p22 : lw_okq (⟨"ShakePictures$Script", "numberHere", "()I"⟩, 12) := ⟨⟨by decide +kernel, by decide +kernel⟩, List.mem_of_getElem? (i := 353) (by decide +kernel), List.mem_of_getElem? (i := 948) (by decide +kernel), List.mem_of_getElem? (i := 949) (by decide +kernel)⟩
theorem lw_p23 : lw_okq (⟨"ShakePictures$Script", "readStatement", "()Z"⟩, 12) := ⟨⟨by decide +kernel, by decide +kernel⟩, List.mem_of_getElem? (i := 353) (by decide +kernel), List.mem_of_getElem? (i := 952) (by decide +kernel), List.mem_of_getElem? (i := 953) (by decide +kernel)⟩
theorem lw_p24 : lw_okq (⟨"ShakePictures$Script", "verbHere", "()I"⟩, 12) := ⟨⟨by decide +kernel, by decide +kernel⟩, List.mem_of_getElem? (i := 353) (by decide +kernel), List.mem_of_getElem? (i := 956) (by decide +kernel), List.mem_of_getElem? (i := 957) (by decide +kernel)⟩
theorem lw_p25 : lw_okq (⟨"ShakePictures$Script", "isWord", "(Ljava/lang/String;)Z"⟩, 12) := ⟨⟨by decide +kernel, by decide +kernel⟩, List.mem_of_getElem? (i := 353) (by decide +kernel), List.mem_of_getElem? (i := 968) (by decide +kernel), List.mem_of_getElem? (i := 969) (by decide +kernel)⟩
theorem lw_p26 : lw_okq (⟨"ShakePictures$Script", "readFirst", "(II)Z"⟩, 12) := ⟨⟨by decide +kernel, by decide +kernel⟩, List.mem_of_getElem? (i := 353) (by decide +kernel), List.mem_of_getElem? (i := 1020) (by decide +kernel), List.mem_of_getElem? (i := 1021) (by decide +kernel)⟩
theorem lw_p27 : lw_okq (⟨"ShakePictures$Script", "passNumber", "(II)Z"⟩, 12) := ⟨⟨by decide +kernel, by decide +kernel⟩, List.mem_of_getElem? (i := 353) (by decide +kernel), List.mem_of_getElem? (i := 1024) (by decide +kernel), List.mem_of_getElem? (i := 1025) (by decide +kernel)⟩
theorem lw_p28 : lw_okq (⟨"ShakePictures$Script", "readSecond", "(II)Z"⟩, 12) := ⟨⟨by decide +kernel, by decide +kernel⟩, List.mem_of_getElem? (i := 353) (by decide +kernel), List.mem_of_getElem? (i := 1028) (by decide +kernel), List.mem_of_getElem? (i := 1029) (by decide +kernel)⟩
theorem lw_p29 : lw_okq (⟨"ShakePictures$Script", "readCells", "()Z"⟩, 12) := ⟨⟨by decide +kernel, by decide +kernel⟩, List.mem_of_getElem? (i := 353) (by decide +kernel), List.mem_of_getElem? (i := 1032) (by decide +kernel), List.mem_of_getElem? (i := 1033) (by decide +kernel)⟩
theorem lw_p30 : lw_okq (⟨"ShakePictures", "obey", "(III)Z"⟩, 9) := ⟨⟨by decide +kernel, by decide +kernel⟩, List.mem_of_getElem? (i := 22) (by decide +kernel), List.mem_of_getElem? (i := 1043) (by decide +kernel), List.mem_of_getElem? (i := 1044) (by decide +kernel)⟩
theorem lw_p31 : lw_okq (⟨"ShakePicturesModel", "cells", "()I"⟩, 51) := ⟨⟨by decide +kernel, by decide +kernel⟩, List.mem_of_getElem? (i := 1052) (by decide +kernel), List.mem_of_getElem? (i := 1219) (by decide +kernel), List.mem_of_getElem? (i := 1220) (by decide +kernel)⟩
def lw_privs_2 : List (MethodName × Nat) := [(⟨"ShakePictures$Resolver", "resolvedWith", "(I)I"⟩, 8), (⟨"ShakePictures$Finder", "gatherBegun", "(II)V"⟩, 7), (⟨"ShakePictures$Finder", "addSpan", "(II)V"⟩, 7), (⟨"ShakePictures$Finder", "countFitting", "(I)I"⟩, 7), (⟨"ShakePictures$Script", "advance", "()V"⟩, 12), (⟨"ShakePictures$Script", "sortAt", "(I)I"⟩, 12), (⟨"ShakePictures$Script", "numberHere", "()I"⟩, 12), (⟨"ShakePictures$Script", "readStatement", "()Z"⟩, 12), (⟨"ShakePictures$Script", "verbHere", "()I"⟩, 12), (⟨"ShakePictures$Script", "isWord", "(Ljava/lang/String;)Z"⟩, 12), (⟨"ShakePictures$Script", "readFirst", "(II)Z"⟩, 12), (⟨"ShakePictures$Script", "passNumber", "(II)Z"⟩, 12), (⟨"ShakePictures$Script", "readSecond", "(II)Z"⟩, 12), (⟨"ShakePictures$Script", "readCells", "()Z"⟩, 12), (⟨"ShakePictures", "obey", "(III)Z"⟩, 9), (⟨"ShakePicturesModel", "cells", "()I"⟩, 51)]
theorem lw_r2 : ∀ q ∈ lw_privs_2, lw_okq q := List.forall_mem_cons.mpr ⟨lw_p16, List.forall_mem_cons.mpr ⟨lw_p17, List.forall_mem_cons.mpr ⟨lw_p18, List.forall_mem_cons.mpr ⟨lw_p19, List.forall_mem_cons.mpr ⟨lw_p20, List.forall_mem_cons.mpr ⟨lw_p21, List.forall_mem_cons.mpr ⟨lw_p22, List.forall_mem_cons.mpr ⟨lw_p23, List.forall_mem_cons.mpr ⟨lw_p24, List.forall_mem_cons.mpr ⟨lw_p25, List.forall_mem_cons.mpr ⟨lw_p26, List.forall_mem_cons.mpr ⟨lw_p27, List.forall_mem_cons.mpr ⟨lw_p28, List.forall_mem_cons.mpr ⟨lw_p29, List.forall_mem_cons.mpr ⟨lw_p30, List.forall_mem_cons.mpr ⟨lw_p31, fun _ h => absurd h List.not_mem_nil⟩⟩⟩⟩⟩⟩⟩⟩⟩⟩⟩⟩⟩⟩⟩⟩
theorem lw_p32 : lw_okq (⟨"ShakePicturesModel", "sizeOf", "(I)I"⟩, 51) := ⟨⟨by decide +kernel, by decide +kernel⟩, List.mem_of_getElem? (i := 1052) (by decide +kernel), List.mem_of_getElem? (i := 1238) (by decide +kernel), List.mem_of_getElem? (i := 1239) (by decide +kernel)⟩
theorem lw_p33 : lw_okq (⟨"ShakePicturesModel", "isCell", "(I)Z"⟩, 51) := ⟨⟨by decide +kernel, by decide +kernel⟩, List.mem_of_getElem? (i := 1052) (by decide +kernel), List.mem_of_getElem? (i := 1250) (by decide +kernel), List.mem_of_getElem? (i := 1251) (by decide +kernel)⟩
theorem lw_p34 : lw_okq (⟨"ShakePicturesModel", "findTimes", "(II)V"⟩, 51) := ⟨⟨by decide +kernel, by decide +kernel⟩, List.mem_of_getElem? (i := 1052) (by decide +kernel), List.mem_of_getElem? (i := 1261) (by decide +kernel), List.mem_of_getElem? (i := 1262) (by decide +kernel)⟩
theorem lw_p35 : lw_okq (⟨"ShakePicturesModel", "slowAt", "(II)I"⟩, 51) := ⟨⟨by decide +kernel, by decide +kernel⟩, List.mem_of_getElem? (i := 1052) (by decide +kernel), List.mem_of_getElem? (i := 1266) (by decide +kernel), List.mem_of_getElem? (i := 1267) (by decide +kernel)⟩
theorem lw_p36 : lw_okq (⟨"ShakePicturesModel", "nextOf", "(II)I"⟩, 51) := ⟨⟨by decide +kernel, by decide +kernel⟩, List.mem_of_getElem? (i := 1052) (by decide +kernel), List.mem_of_getElem? (i := 1274) (by decide +kernel), List.mem_of_getElem? (i := 1275) (by decide +kernel)⟩
theorem lw_p37 : lw_okq (⟨"ShakePicturesModel", "areBeside", "(II)Z"⟩, 51) := ⟨⟨by decide +kernel, by decide +kernel⟩, List.mem_of_getElem? (i := 1052) (by decide +kernel), List.mem_of_getElem? (i := 1278) (by decide +kernel), List.mem_of_getElem? (i := 1279) (by decide +kernel)⟩
theorem lw_p38 : lw_okq (⟨"ShakePicturesModel", "isEar", "(I)Z"⟩, 51) := ⟨⟨by decide +kernel, by decide +kernel⟩, List.mem_of_getElem? (i := 1052) (by decide +kernel), List.mem_of_getElem? (i := 1290) (by decide +kernel), List.mem_of_getElem? (i := 1291) (by decide +kernel)⟩
theorem lw_p39 : lw_okq (⟨"ShakePicturesModel", "isShake", "(I)Z"⟩, 51) := ⟨⟨by decide +kernel, by decide +kernel⟩, List.mem_of_getElem? (i := 1052) (by decide +kernel), List.mem_of_getElem? (i := 1302) (by decide +kernel), List.mem_of_getElem? (i := 1303) (by decide +kernel)⟩
theorem lw_p40 : lw_okq (⟨"ShakePicturesModel", "addTelling", "(III)V"⟩, 51) := ⟨⟨by decide +kernel, by decide +kernel⟩, List.mem_of_getElem? (i := 1052) (by decide +kernel), List.mem_of_getElem? (i := 1313) (by decide +kernel), List.mem_of_getElem? (i := 1314) (by decide +kernel)⟩
theorem lw_p41 : lw_okq (⟨"ShakePicturesModel", "isPick", "(I)Z"⟩, 51) := ⟨⟨by decide +kernel, by decide +kernel⟩, List.mem_of_getElem? (i := 1052) (by decide +kernel), List.mem_of_getElem? (i := 1321) (by decide +kernel), List.mem_of_getElem? (i := 1322) (by decide +kernel)⟩
theorem lw_p42 : lw_okq (⟨"ShakePicturesModel", "findSpans", "(I)V"⟩, 51) := ⟨⟨by decide +kernel, by decide +kernel⟩, List.mem_of_getElem? (i := 1052) (by decide +kernel), List.mem_of_getElem? (i := 1333) (by decide +kernel), List.mem_of_getElem? (i := 1334) (by decide +kernel)⟩
theorem lw_p43 : lw_okq (⟨"ShakePicturesModel", "findShakeTimes", "()V"⟩, 51) := ⟨⟨by decide +kernel, by decide +kernel⟩, List.mem_of_getElem? (i := 1052) (by decide +kernel), List.mem_of_getElem? (i := 1337) (by decide +kernel), List.mem_of_getElem? (i := 1338) (by decide +kernel)⟩
theorem lw_p44 : lw_okq (⟨"ShakePicturesModel", "foretold", "(I)I"⟩, 51) := ⟨⟨by decide +kernel, by decide +kernel⟩, List.mem_of_getElem? (i := 1052) (by decide +kernel), List.mem_of_getElem? (i := 1341) (by decide +kernel), List.mem_of_getElem? (i := 1342) (by decide +kernel)⟩
theorem lw_p45 : lw_okq (⟨"ShakePicturesModel", "offOf", "(II)I"⟩, 51) := ⟨⟨by decide +kernel, by decide +kernel⟩, List.mem_of_getElem? (i := 1052) (by decide +kernel), List.mem_of_getElem? (i := 1345) (by decide +kernel), List.mem_of_getElem? (i := 1346) (by decide +kernel)⟩
theorem lw_p46 : lw_okq (⟨"ShakePicturesModel", "misfitNow", "()I"⟩, 51) := ⟨⟨by decide +kernel, by decide +kernel⟩, List.mem_of_getElem? (i := 1052) (by decide +kernel), List.mem_of_getElem? (i := 1353) (by decide +kernel), List.mem_of_getElem? (i := 1354) (by decide +kernel)⟩
theorem lw_p47 : lw_okq (⟨"ShakePicturesModel", "fitAll", "(I)V"⟩, 51) := ⟨⟨by decide +kernel, by decide +kernel⟩, List.mem_of_getElem? (i := 1052) (by decide +kernel), List.mem_of_getElem? (i := 1361) (by decide +kernel), List.mem_of_getElem? (i := 1362) (by decide +kernel)⟩
def lw_privs_3 : List (MethodName × Nat) := [(⟨"ShakePicturesModel", "sizeOf", "(I)I"⟩, 51), (⟨"ShakePicturesModel", "isCell", "(I)Z"⟩, 51), (⟨"ShakePicturesModel", "findTimes", "(II)V"⟩, 51), (⟨"ShakePicturesModel", "slowAt", "(II)I"⟩, 51), (⟨"ShakePicturesModel", "nextOf", "(II)I"⟩, 51), (⟨"ShakePicturesModel", "areBeside", "(II)Z"⟩, 51), (⟨"ShakePicturesModel", "isEar", "(I)Z"⟩, 51), (⟨"ShakePicturesModel", "isShake", "(I)Z"⟩, 51), (⟨"ShakePicturesModel", "addTelling", "(III)V"⟩, 51), (⟨"ShakePicturesModel", "isPick", "(I)Z"⟩, 51), (⟨"ShakePicturesModel", "findSpans", "(I)V"⟩, 51), (⟨"ShakePicturesModel", "findShakeTimes", "()V"⟩, 51), (⟨"ShakePicturesModel", "foretold", "(I)I"⟩, 51), (⟨"ShakePicturesModel", "offOf", "(II)I"⟩, 51), (⟨"ShakePicturesModel", "misfitNow", "()I"⟩, 51), (⟨"ShakePicturesModel", "fitAll", "(I)V"⟩, 51)]
theorem lw_r3 : ∀ q ∈ lw_privs_3, lw_okq q := List.forall_mem_cons.mpr ⟨lw_p32, List.forall_mem_cons.mpr ⟨lw_p33, List.forall_mem_cons.mpr ⟨lw_p34, List.forall_mem_cons.mpr ⟨lw_p35, List.forall_mem_cons.mpr ⟨lw_p36, List.forall_mem_cons.mpr ⟨lw_p37, List.forall_mem_cons.mpr ⟨lw_p38, List.forall_mem_cons.mpr ⟨lw_p39, List.forall_mem_cons.mpr ⟨lw_p40, List.forall_mem_cons.mpr ⟨lw_p41, List.forall_mem_cons.mpr ⟨lw_p42, List.forall_mem_cons.mpr ⟨lw_p43, List.forall_mem_cons.mpr ⟨lw_p44, List.forall_mem_cons.mpr ⟨lw_p45, List.forall_mem_cons.mpr ⟨lw_p46, List.forall_mem_cons.mpr ⟨lw_p47, fun _ h => absurd h List.not_mem_nil⟩⟩⟩⟩⟩⟩⟩⟩⟩⟩⟩⟩⟩⟩⟩⟩
theorem lw_p48 : lw_okq (⟨"ShakePicturesModel", "fitBlock", "(I)Z"⟩, 51) := ⟨⟨by decide +kernel, by decide +kernel⟩, List.mem_of_getElem? (i := 1052) (by decide +kernel), List.mem_of_getElem? (i := 1365) (by decide +kernel), List.mem_of_getElem? (i := 1366) (by decide +kernel)⟩
theorem lw_p49 : lw_okq (⟨"ShakePicturesModel", "findRays", "()V"⟩, 51) := ⟨⟨by decide +kernel, by decide +kernel⟩, List.mem_of_getElem? (i := 1052) (by decide +kernel), List.mem_of_getElem? (i := 1373) (by decide +kernel), List.mem_of_getElem? (i := 1374) (by decide +kernel)⟩
theorem lw_p50 : lw_okq (⟨"ShakePicturesModel", "layRays", "(III)V"⟩, 51) := ⟨⟨by decide +kernel, by decide +kernel⟩, List.mem_of_getElem? (i := 1052) (by decide +kernel), List.mem_of_getElem? (i := 1377) (by decide +kernel), List.mem_of_getElem? (i := 1378) (by decide +kernel)⟩
theorem lw_p51 : lw_okq (⟨"ShakePicturesModel", "press", "(I)Z"⟩, 51) := ⟨⟨by decide +kernel, by decide +kernel⟩, List.mem_of_getElem? (i := 1052) (by decide +kernel), List.mem_of_getElem? (i := 1381) (by decide +kernel), List.mem_of_getElem? (i := 1382) (by decide +kernel)⟩
theorem lw_p52 : lw_okq (⟨"ShakePicturesModel", "others", "(IIZ)I"⟩, 51) := ⟨⟨by decide +kernel, by decide +kernel⟩, List.mem_of_getElem? (i := 1052) (by decide +kernel), List.mem_of_getElem? (i := 1385) (by decide +kernel), List.mem_of_getElem? (i := 1386) (by decide +kernel)⟩
theorem lw_p53 : lw_okq (⟨"ShakePicturesModel", "layRows", "()I"⟩, 51) := ⟨⟨by decide +kernel, by decide +kernel⟩, List.mem_of_getElem? (i := 1052) (by decide +kernel), List.mem_of_getElem? (i := 1403) (by decide +kernel), List.mem_of_getElem? (i := 1404) (by decide +kernel)⟩
theorem lw_p54 : lw_okq (⟨"ShakePicturesModel", "rankOf", "(I)I"⟩, 51) := ⟨⟨by decide +kernel, by decide +kernel⟩, List.mem_of_getElem? (i := 1052) (by decide +kernel), List.mem_of_getElem? (i := 1407) (by decide +kernel), List.mem_of_getElem? (i := 1408) (by decide +kernel)⟩
theorem lw_p55 : lw_okq (⟨"ShakePicturesModel", "isResolved", "(I)Z"⟩, 51) := ⟨⟨by decide +kernel, by decide +kernel⟩, List.mem_of_getElem? (i := 1052) (by decide +kernel), List.mem_of_getElem? (i := 1421) (by decide +kernel), List.mem_of_getElem? (i := 1422) (by decide +kernel)⟩
theorem lw_p56 : lw_okq (⟨"ShakePicturesModel", "layAll", "()I"⟩, 51) := ⟨⟨by decide +kernel, by decide +kernel⟩, List.mem_of_getElem? (i := 1052) (by decide +kernel), List.mem_of_getElem? (i := 1425) (by decide +kernel), List.mem_of_getElem? (i := 1426) (by decide +kernel)⟩
theorem lw_p57 : lw_okq (⟨"ShakePicturesModel", "resolvedWith", "(I)I"⟩, 51) := ⟨⟨by decide +kernel, by decide +kernel⟩, List.mem_of_getElem? (i := 1052) (by decide +kernel), List.mem_of_getElem? (i := 1433) (by decide +kernel), List.mem_of_getElem? (i := 1434) (by decide +kernel)⟩
theorem lw_p58 : lw_okq (⟨"ShakePicturesModel", "findHeap", "(II)V"⟩, 51) := ⟨⟨by decide +kernel, by decide +kernel⟩, List.mem_of_getElem? (i := 1052) (by decide +kernel), List.mem_of_getElem? (i := 1441) (by decide +kernel), List.mem_of_getElem? (i := 1442) (by decide +kernel)⟩
theorem lw_p59 : lw_okq (⟨"ShakePicturesModel", "isRead", "()Z"⟩, 51) := ⟨⟨by decide +kernel, by decide +kernel⟩, List.mem_of_getElem? (i := 1052) (by decide +kernel), List.mem_of_getElem? (i := 1470) (by decide +kernel), List.mem_of_getElem? (i := 1471) (by decide +kernel)⟩
theorem lw_p60 : lw_okq (⟨"ShakePicturesModel", "nextToken", "()V"⟩, 51) := ⟨⟨by decide +kernel, by decide +kernel⟩, List.mem_of_getElem? (i := 1052) (by decide +kernel), List.mem_of_getElem? (i := 1474) (by decide +kernel), List.mem_of_getElem? (i := 1475) (by decide +kernel)⟩
theorem lw_p61 : lw_okq (⟨"ShakePicturesModel", "isStatement", "()Z"⟩, 51) := ⟨⟨by decide +kernel, by decide +kernel⟩, List.mem_of_getElem? (i := 1052) (by decide +kernel), List.mem_of_getElem? (i := 1484) (by decide +kernel), List.mem_of_getElem? (i := 1485) (by decide +kernel)⟩
theorem lw_p62 : lw_okq (⟨"ShakePicturesModel", "isTwo", "(IIII)Z"⟩, 51) := ⟨⟨by decide +kernel, by decide +kernel⟩, List.mem_of_getElem? (i := 1052) (by decide +kernel), List.mem_of_getElem? (i := 1489) (by decide +kernel), List.mem_of_getElem? (i := 1490) (by decide +kernel)⟩
theorem lw_p63 : lw_okq (⟨"ShakePicturesModel", "isNumber", "(II)Z"⟩, 51) := ⟨⟨by decide +kernel, by decide +kernel⟩, List.mem_of_getElem? (i := 1052) (by decide +kernel), List.mem_of_getElem? (i := 1493) (by decide +kernel), List.mem_of_getElem? (i := 1494) (by decide +kernel)⟩
def lw_privs_4 : List (MethodName × Nat) := [(⟨"ShakePicturesModel", "fitBlock", "(I)Z"⟩, 51), (⟨"ShakePicturesModel", "findRays", "()V"⟩, 51), (⟨"ShakePicturesModel", "layRays", "(III)V"⟩, 51), (⟨"ShakePicturesModel", "press", "(I)Z"⟩, 51), (⟨"ShakePicturesModel", "others", "(IIZ)I"⟩, 51), (⟨"ShakePicturesModel", "layRows", "()I"⟩, 51), (⟨"ShakePicturesModel", "rankOf", "(I)I"⟩, 51), (⟨"ShakePicturesModel", "isResolved", "(I)Z"⟩, 51), (⟨"ShakePicturesModel", "layAll", "()I"⟩, 51), (⟨"ShakePicturesModel", "resolvedWith", "(I)I"⟩, 51), (⟨"ShakePicturesModel", "findHeap", "(II)V"⟩, 51), (⟨"ShakePicturesModel", "isRead", "()Z"⟩, 51), (⟨"ShakePicturesModel", "nextToken", "()V"⟩, 51), (⟨"ShakePicturesModel", "isStatement", "()Z"⟩, 51), (⟨"ShakePicturesModel", "isTwo", "(IIII)Z"⟩, 51), (⟨"ShakePicturesModel", "isNumber", "(II)Z"⟩, 51)]
theorem lw_r4 : ∀ q ∈ lw_privs_4, lw_okq q := List.forall_mem_cons.mpr ⟨lw_p48, List.forall_mem_cons.mpr ⟨lw_p49, List.forall_mem_cons.mpr ⟨lw_p50, List.forall_mem_cons.mpr ⟨lw_p51, List.forall_mem_cons.mpr ⟨lw_p52, List.forall_mem_cons.mpr ⟨lw_p53, List.forall_mem_cons.mpr ⟨lw_p54, List.forall_mem_cons.mpr ⟨lw_p55, List.forall_mem_cons.mpr ⟨lw_p56, List.forall_mem_cons.mpr ⟨lw_p57, List.forall_mem_cons.mpr ⟨lw_p58, List.forall_mem_cons.mpr ⟨lw_p59, List.forall_mem_cons.mpr ⟨lw_p60, List.forall_mem_cons.mpr ⟨lw_p61, List.forall_mem_cons.mpr ⟨lw_p62, List.forall_mem_cons.mpr ⟨lw_p63, fun _ h => absurd h List.not_mem_nil⟩⟩⟩⟩⟩⟩⟩⟩⟩⟩⟩⟩⟩⟩⟩⟩
theorem lw_p64 : lw_okq (⟨"ShakePicturesModel", "fails", "()Z"⟩, 51) := ⟨⟨by decide +kernel, by decide +kernel⟩, List.mem_of_getElem? (i := 1052) (by decide +kernel), List.mem_of_getElem? (i := 1497) (by decide +kernel), List.mem_of_getElem? (i := 1498) (by decide +kernel)⟩
theorem lw_p65 : lw_okq (⟨"ShakePicturesModel", "isFit", "()Z"⟩, 51) := ⟨⟨by decide +kernel, by decide +kernel⟩, List.mem_of_getElem? (i := 1052) (by decide +kernel), List.mem_of_getElem? (i := 1502) (by decide +kernel), List.mem_of_getElem? (i := 1503) (by decide +kernel)⟩
theorem lw_p66 : lw_okq (⟨"ShakePicturesModel", "isSplit", "()Z"⟩, 51) := ⟨⟨by decide +kernel, by decide +kernel⟩, List.mem_of_getElem? (i := 1052) (by decide +kernel), List.mem_of_getElem? (i := 1509) (by decide +kernel), List.mem_of_getElem? (i := 1510) (by decide +kernel)⟩
theorem lw_p67 : lw_okq (⟨"ShakePicturesModel", "isDone", "(I)Z"⟩, 51) := ⟨⟨by decide +kernel, by decide +kernel⟩, List.mem_of_getElem? (i := 1052) (by decide +kernel), List.mem_of_getElem? (i := 1519) (by decide +kernel), List.mem_of_getElem? (i := 1520) (by decide +kernel)⟩
def lw_privs_5 : List (MethodName × Nat) := [(⟨"ShakePicturesModel", "fails", "()Z"⟩, 51), (⟨"ShakePicturesModel", "isFit", "()Z"⟩, 51), (⟨"ShakePicturesModel", "isSplit", "()Z"⟩, 51), (⟨"ShakePicturesModel", "isDone", "(I)Z"⟩, 51)]
theorem lw_r5 : ∀ q ∈ lw_privs_5, lw_okq q := List.forall_mem_cons.mpr ⟨lw_p64, List.forall_mem_cons.mpr ⟨lw_p65, List.forall_mem_cons.mpr ⟨lw_p66, List.forall_mem_cons.mpr ⟨lw_p67, fun _ h => absurd h List.not_mem_nil⟩⟩⟩⟩
def lw_privs : List (MethodName × Nat) := lw_privs_1 ++ (lw_privs_2 ++ (lw_privs_3 ++ (lw_privs_4 ++ (lw_privs_5))))
def lw_tbl : List Cond := k2_sels lw_privs ++ tables_1
theorem lw_privs_ok : ∀ q ∈ lw_privs, lw_okq q := by
  show ∀ q ∈ lw_privs_1 ++ (lw_privs_2 ++ (lw_privs_3 ++ (lw_privs_4 ++ (lw_privs_5)))), lw_okq q
  exact List.forall_mem_append.mpr ⟨lw_r1, List.forall_mem_append.mpr ⟨lw_r2, List.forall_mem_append.mpr ⟨lw_r3, List.forall_mem_append.mpr ⟨lw_r4, lw_r5⟩⟩⟩⟩
/-! ===== tables: words that every method knows, classes, texts ===== -/
def am_tbl : List Cond := lw_tbl.filter goodWord
theorem am_in {w : Cond} (i : Nat) (h : tables_1[i]? = some w) (hg : goodWord w = true) : w ∈ am_tbl := List.mem_filter.mpr ⟨List.mem_append_right _ (List.mem_of_getElem? h), hg⟩
theorem am_inS {q : MethodName × Nat} (i : Nat) (h : lw_privs[i]? = some q) : Cond.selects q.1.cls q.1 q.1 ∈ am_tbl := List.mem_filter.mpr ⟨List.mem_append_left _ (List.mem_map.mpr ⟨q, List.mem_of_getElem? h, rfl⟩), rfl⟩
theorem am_good : GoodIn am_tbl am_tbl := fun w h => ⟨h, good_of_word (List.mem_filter.mp h).2⟩
def am_RGr : String := "ShakePictures$Ground"
def am_TGr : u_T := fun k => match k with
  | 0 => ("ShakePictures$Ground", "cells", "I", false)
  | 1 => ("ShakePictures$Ground", "ratio", "I", false)
  | 2 => ("ShakePictures$Ground", "blockOf", "[I", true)
  | 3 => ("ShakePictures$Ground", "slows", "[I", true)
  | 4 => ("ShakePictures$Ground", "beside", "[I", true)
  | 5 => ("ShakePictures$Ground", "cost", "[I", true)
  | 6 => ("ShakePictures$Ground", "least", "[I", true)
  | 7 => ("ShakePictures$Ground", "wayCells", "[I", true)
  | _ => ("ShakePictures$Ground", "wayLength", "I", false)
def am_YGr : Nat → FieldType := fun k => match k with
  | 0 => .int
  | 1 => .int
  | 2 => .array .int
  | 3 => .array .int
  | 4 => .array .int
  | 5 => .array .int
  | 6 => .array .int
  | 7 => .array .int
  | _ => .int
def am_RBo : String := "ShakePictures$Book"
def am_TBo : u_T := fun k => match k with
  | 0 => ("ShakePictures$Book", "ears", "I", false)
  | 1 => ("ShakePictures$Book", "earCell", "[I", true)
  | 2 => ("ShakePictures$Book", "earClock", "[I", true)
  | 3 => ("ShakePictures$Book", "shakes", "I", false)
  | 4 => ("ShakePictures$Book", "shakeCell", "[I", true)
  | 5 => ("ShakePictures$Book", "shakeBegun", "[I", true)
  | 6 => ("ShakePictures$Book", "picks", "I", false)
  | 7 => ("ShakePictures$Book", "pickEar", "[I", true)
  | 8 => ("ShakePictures$Book", "pickShake", "[I", true)
  | 9 => ("ShakePictures$Book", "pickKind", "[I", true)
  | 10 => ("ShakePictures$Book", "tellings", "I", false)
  | 11 => ("ShakePictures$Book", "tellPick", "[I", true)
  | 12 => ("ShakePictures$Book", "tellDay", "[I", true)
  | 13 => ("ShakePictures$Book", "tellLow", "[I", true)
  | 14 => ("ShakePictures$Book", "tellHigh", "[I", true)
  | _ => ("ShakePictures$Book", "day", "I", false)
def am_YBo : Nat → FieldType := fun k => match k with
  | 0 => .int
  | 1 => .array .int
  | 2 => .array .int
  | 3 => .int
  | 4 => .array .int
  | 5 => .array .int
  | 6 => .int
  | 7 => .array .int
  | 8 => .array .int
  | 9 => .array .int
  | 10 => .int
  | 11 => .array .int
  | 12 => .array .int
  | 13 => .array .int
  | 14 => .array .int
  | _ => .int
def am_RFt : String := "ShakePictures$Fitter"
def am_TFt : u_T := fun k => match k with
  | 0 => ("ShakePictures$Fitter", "ground", "LShakePictures$Ground;", true)
  | 1 => ("ShakePictures$Fitter", "book", "LShakePictures$Book;", true)
  | 2 => ("ShakePictures$Fitter", "low", "[I", true)
  | 3 => ("ShakePictures$Fitter", "high", "[I", true)
  | 4 => ("ShakePictures$Fitter", "misfitAt", "[I", true)
  | 5 => ("ShakePictures$Fitter", "members", "[I", true)
  | 6 => ("ShakePictures$Fitter", "memberCount", "I", false)
  | 7 => ("ShakePictures$Fitter", "times", "[[I", true)
  | _ => ("ShakePictures$Fitter", "ends", "[I", true)
def am_YFt : Nat → FieldType := fun k => match k with
  | 0 => .object "ShakePictures$Ground"
  | 1 => .object "ShakePictures$Book"
  | 2 => .array .int
  | 3 => .array .int
  | 4 => .array .int
  | 5 => .array .int
  | 6 => .int
  | 7 => .array (.array .int)
  | _ => .array .int
def am_RRa : String := "ShakePictures$Rays"
def am_TRa : u_T := fun k => match k with
  | 0 => ("ShakePictures$Rays", "ground", "LShakePictures$Ground;", true)
  | 1 => ("ShakePictures$Rays", "book", "LShakePictures$Book;", true)
  | 2 => ("ShakePictures$Rays", "rows", "I", false)
  | 3 => ("ShakePictures$Rays", "pickOf", "[I", true)
  | _ => ("ShakePictures$Rays", "row", "[[I", true)
def am_YRa : Nat → FieldType := fun k => match k with
  | 0 => .object "ShakePictures$Ground"
  | 1 => .object "ShakePictures$Book"
  | 2 => .int
  | 3 => .array .int
  | _ => .array (.array .int)
def am_RPr : String := "ShakePictures$Press"
def am_TPr : u_T := fun k => match k with
  | 0 => ("ShakePictures$Press", "rays", "LShakePictures$Rays;", true)
  | 1 => ("ShakePictures$Press", "book", "LShakePictures$Book;", true)
  | 2 => ("ShakePictures$Press", "sumLow", "[I", true)
  | 3 => ("ShakePictures$Press", "sumHigh", "[I", true)
  | 4 => ("ShakePictures$Press", "slowLow", "[I", true)
  | 5 => ("ShakePictures$Press", "slowHigh", "[I", true)
  | _ => ("ShakePictures$Press", "crossed", "Z", false)
def am_YPr : Nat → FieldType := fun k => match k with
  | 0 => .object "ShakePictures$Rays"
  | 1 => .object "ShakePictures$Book"
  | 2 => .array .int
  | 3 => .array .int
  | 4 => .array .int
  | 5 => .array .int
  | _ => .boolean
def am_RBa : String := "ShakePictures$Basis"
def am_TBa : u_T := fun k => match k with
  | 0 => ("ShakePictures$Basis", "size", "I", false)
  | 1 => ("ShakePictures$Basis", "has", "[Z", true)
  | 2 => ("ShakePictures$Basis", "rowOf", "[[J", true)
  | _ => ("ShakePictures$Basis", "fresh", "[J", true)
def am_YBa : Nat → FieldType := fun k => match k with
  | 0 => .int
  | 1 => .array .boolean
  | 2 => .array (.array .long)
  | _ => .array .long
def am_RRe : String := "ShakePictures$Resolver"
def am_TRe : u_T := fun k => match k with
  | 0 => ("ShakePictures$Resolver", "ground", "LShakePictures$Ground;", true)
  | 1 => ("ShakePictures$Resolver", "book", "LShakePictures$Book;", true)
  | 2 => ("ShakePictures$Resolver", "rays", "LShakePictures$Rays;", true)
  | 3 => ("ShakePictures$Resolver", "picked", "LShakePictures$Basis;", true)
  | 4 => ("ShakePictures$Resolver", "tried", "LShakePictures$Basis;", true)
  | 5 => ("ShakePictures$Resolver", "row", "[I", true)
  | 6 => ("ShakePictures$Resolver", "bestCell", "I", false)
  | _ => ("ShakePictures$Resolver", "bestResolved", "I", false)
def am_YRe : Nat → FieldType := fun k => match k with
  | 0 => .object "ShakePictures$Ground"
  | 1 => .object "ShakePictures$Book"
  | 2 => .object "ShakePictures$Rays"
  | 3 => .object "ShakePictures$Basis"
  | 4 => .object "ShakePictures$Basis"
  | 5 => .array .int
  | 6 => .int
  | _ => .int
def am_RFi : String := "ShakePictures$Finder"
def am_TFi : u_T := fun k => match k with
  | 0 => ("ShakePictures$Finder", "ground", "LShakePictures$Ground;", true)
  | 1 => ("ShakePictures$Finder", "book", "LShakePictures$Book;", true)
  | 2 => ("ShakePictures$Finder", "from", "[I", true)
  | 3 => ("ShakePictures$Finder", "to", "[I", true)
  | 4 => ("ShakePictures$Finder", "spans", "I", false)
  | 5 => ("ShakePictures$Finder", "heapSize", "I", false)
  | _ => ("ShakePictures$Finder", "heapBegun", "I", false)
def am_YFi : Nat → FieldType := fun k => match k with
  | 0 => .object "ShakePictures$Ground"
  | 1 => .object "ShakePictures$Book"
  | 2 => .array .int
  | 3 => .array .int
  | 4 => .int
  | 5 => .int
  | _ => .int
def am_RSc : String := "ShakePictures$Script"
def am_TSc : u_T := fun k => match k with
  | 0 => ("ShakePictures$Script", "ground", "LShakePictures$Ground;", true)
  | 1 => ("ShakePictures$Script", "book", "LShakePictures$Book;", true)
  | 2 => ("ShakePictures$Script", "bytes", "[I", true)
  | 3 => ("ShakePictures$Script", "length", "I", false)
  | 4 => ("ShakePictures$Script", "sort", "I", false)
  | 5 => ("ShakePictures$Script", "start", "I", false)
  | 6 => ("ShakePictures$Script", "over", "I", false)
  | 7 => ("ShakePictures$Script", "number", "I", false)
  | 8 => ("ShakePictures$Script", "statements", "I", false)
  | 9 => ("ShakePictures$Script", "verbs", "[I", true)
  | 10 => ("ShakePictures$Script", "firsts", "[I", true)
  | _ => ("ShakePictures$Script", "seconds", "[I", true)
def am_YSc : Nat → FieldType := fun k => match k with
  | 0 => .object "ShakePictures$Ground"
  | 1 => .object "ShakePictures$Book"
  | 2 => .array .int
  | 3 => .int
  | 4 => .int
  | 5 => .int
  | 6 => .int
  | 7 => .int
  | 8 => .int
  | 9 => .array .int
  | 10 => .array .int
  | _ => .array .int
def am_RMe : String := "ShakePictures$Memory"
def am_TMe : u_T := fun k => match k with
  | 0 => ("ShakePictures$Memory", "ground", "LShakePictures$Ground;", true)
  | 1 => ("ShakePictures$Memory", "book", "LShakePictures$Book;", true)
  | 2 => ("ShakePictures$Memory", "blockOf", "[I", true)
  | 3 => ("ShakePictures$Memory", "slows", "[I", true)
  | 4 => ("ShakePictures$Memory", "shakeCell", "[I", true)
  | _ => ("ShakePictures$Memory", "earClock", "[I", true)
def am_YMe : Nat → FieldType := fun k => match k with
  | 0 => .object "ShakePictures$Ground"
  | 1 => .object "ShakePictures$Book"
  | 2 => .array .int
  | 3 => .array .int
  | 4 => .array .int
  | _ => .array .int
def am_RSp : String := "ShakePictures"
def am_TSp : u_T := fun k => match k with
  | 0 => ("ShakePictures", "ground", "LShakePictures$Ground;", true)
  | 1 => ("ShakePictures", "book", "LShakePictures$Book;", true)
  | 2 => ("ShakePictures", "fitter", "LShakePictures$Fitter;", true)
  | 3 => ("ShakePictures", "rays", "LShakePictures$Rays;", true)
  | 4 => ("ShakePictures", "press", "LShakePictures$Press;", true)
  | 5 => ("ShakePictures", "resolver", "LShakePictures$Resolver;", true)
  | 6 => ("ShakePictures", "finder", "LShakePictures$Finder;", true)
  | 7 => ("ShakePictures", "script", "LShakePictures$Script;", true)
  | _ => ("ShakePictures", "memory", "LShakePictures$Memory;", true)
def am_YSp : Nat → FieldType := fun k => match k with
  | 0 => .object "ShakePictures$Ground"
  | 1 => .object "ShakePictures$Book"
  | 2 => .object "ShakePictures$Fitter"
  | 3 => .object "ShakePictures$Rays"
  | 4 => .object "ShakePictures$Press"
  | 5 => .object "ShakePictures$Resolver"
  | 6 => .object "ShakePictures$Finder"
  | 7 => .object "ShakePictures$Script"
  | _ => .object "ShakePictures$Memory"
def am_RMo : String := "ShakePicturesModel"
def am_TMo : u_T := fun k => match k with
  | 0 => ("ShakePicturesModel", "wide", "I", false)
  | 1 => ("ShakePicturesModel", "high", "I", false)
  | 2 => ("ShakePicturesModel", "blockOf", "[I", true)
  | 3 => ("ShakePicturesModel", "slow", "[I", true)
  | 4 => ("ShakePicturesModel", "ratio", "I", false)
  | 5 => ("ShakePicturesModel", "ears", "I", false)
  | 6 => ("ShakePicturesModel", "earCell", "[I", true)
  | 7 => ("ShakePicturesModel", "clocks", "[I", true)
  | 8 => ("ShakePicturesModel", "shakes", "I", false)
  | 9 => ("ShakePicturesModel", "shakeCell", "[I", true)
  | 10 => ("ShakePicturesModel", "begun", "[I", true)
  | 11 => ("ShakePicturesModel", "picks", "I", false)
  | 12 => ("ShakePicturesModel", "pickEar", "[I", true)
  | 13 => ("ShakePicturesModel", "pickShake", "[I", true)
  | 14 => ("ShakePicturesModel", "pickKind", "[I", true)
  | 15 => ("ShakePicturesModel", "tellings", "I", false)
  | 16 => ("ShakePicturesModel", "toldOf", "[I", true)
  | 17 => ("ShakePicturesModel", "toldIn", "[I", true)
  | 18 => ("ShakePicturesModel", "toldLow", "[I", true)
  | 19 => ("ShakePicturesModel", "toldHigh", "[I", true)
  | 20 => ("ShakePicturesModel", "day", "I", false)
  | 21 => ("ShakePicturesModel", "low", "[I", true)
  | 22 => ("ShakePicturesModel", "top", "[I", true)
  | 23 => ("ShakePicturesModel", "isTold", "[Z", true)
  | 24 => ("ShakePicturesModel", "times", "[I", true)
  | 25 => ("ShakePicturesModel", "shakeTimes", "[I", true)
  | 26 => ("ShakePicturesModel", "rays", "[I", true)
  | 27 => ("ShakePicturesModel", "least", "[I", true)
  | 28 => ("ShakePicturesModel", "greatest", "[I", true)
  | 29 => ("ShakePicturesModel", "rows", "[J", true)
  | 30 => ("ShakePicturesModel", "kept", "[I", true)
  | 31 => ("ShakePicturesModel", "bytes", "I", false)
  | 32 => ("ShakePicturesModel", "text", "[I", true)
  | 33 => ("ShakePicturesModel", "position", "I", false)
  | 34 => ("ShakePicturesModel", "tokenAt", "I", false)
  | 35 => ("ShakePicturesModel", "token", "J", false)
  | 36 => ("ShakePicturesModel", "digits", "I", false)
  | 37 => ("ShakePicturesModel", "number", "I", false)
  | 38 => ("ShakePicturesModel", "faultAt", "I", false)
  | 39 => ("ShakePicturesModel", "statements", "I", false)
  | 40 => ("ShakePicturesModel", "sorts", "[I", true)
  | 41 => ("ShakePicturesModel", "ones", "[I", true)
  | 42 => ("ShakePicturesModel", "twos", "[I", true)
  | 43 => ("ShakePicturesModel", "wasBlock", "[I", true)
  | 44 => ("ShakePicturesModel", "wasSlow", "[I", true)
  | 45 => ("ShakePicturesModel", "wasClock", "[I", true)
  | 46 => ("ShakePicturesModel", "wasCell", "[I", true)
  | 47 => ("ShakePicturesModel", "more", "[I", true)
  | 48 => ("ShakePicturesModel", "moreRows", "I", false)
  | 49 => ("ShakePicturesModel", "heapMany", "I", false)
  | _ => ("ShakePicturesModel", "heapBegun", "I", false)
def am_YMo : Nat → FieldType := fun k => match k with
  | 0 => .int
  | 1 => .int
  | 2 => .array .int
  | 3 => .array .int
  | 4 => .int
  | 5 => .int
  | 6 => .array .int
  | 7 => .array .int
  | 8 => .int
  | 9 => .array .int
  | 10 => .array .int
  | 11 => .int
  | 12 => .array .int
  | 13 => .array .int
  | 14 => .array .int
  | 15 => .int
  | 16 => .array .int
  | 17 => .array .int
  | 18 => .array .int
  | 19 => .array .int
  | 20 => .int
  | 21 => .array .int
  | 22 => .array .int
  | 23 => .array .boolean
  | 24 => .array .int
  | 25 => .array .int
  | 26 => .array .int
  | 27 => .array .int
  | 28 => .array .int
  | 29 => .array .long
  | 30 => .array .int
  | 31 => .int
  | 32 => .array .int
  | 33 => .int
  | 34 => .int
  | 35 => .long
  | 36 => .int
  | 37 => .int
  | 38 => .int
  | 39 => .int
  | 40 => .array .int
  | 41 => .array .int
  | 42 => .array .int
  | 43 => .array .int
  | 44 => .array .int
  | 45 => .array .int
  | 46 => .array .int
  | 47 => .array .int
  | 48 => .int
  | 49 => .int
  | _ => .int
abbrev am_cl : List vw_C := [(am_RGr, am_TGr, 9), (am_RBo, am_TBo, 16), (am_RFt, am_TFt, 9), (am_RRa, am_TRa, 5), (am_RPr, am_TPr, 7), (am_RBa, am_TBa, 4), (am_RRe, am_TRe, 8), (am_RFi, am_TFi, 7), (am_RSc, am_TSc, 12), (am_RMe, am_TMe, 6), (am_RSp, am_TSp, 9), (am_RMo, am_TMo, 51)]
def am_Y (ci : Nat) : Nat → FieldType := match ci with
  | 0 => am_YGr
  | 1 => am_YBo
  | 2 => am_YFt
  | 3 => am_YRa
  | 4 => am_YPr
  | 5 => am_YBa
  | 6 => am_YRe
  | 7 => am_YFi
  | 8 => am_YSc
  | 9 => am_YMe
  | 10 => am_YSp
  | _ => am_YMo
def am_TG : List (List Nat) := [[0, 0, 2, 2, 2, 2, 2, 2, 0], [0, 2, 2, 0, 2, 2, 0, 2, 2, 2, 0, 2, 2, 2, 2, 0], [2, 2, 2, 2, 2, 2, 0, 2, 2], [2, 2, 0, 2, 2], [2, 2, 2, 2, 2, 2, 0], [0, 2, 2, 2], [2, 2, 2, 2, 2, 2, 0, 0], [2, 2, 2, 2, 0, 0, 0], [2, 2, 2, 0, 0, 0, 0, 0, 0, 2, 2, 2], [2, 2, 2, 2, 2, 2], [2, 2, 2, 2, 2, 2, 2, 2, 2], [0, 0, 2, 2, 0, 0, 2, 2, 0, 2, 2, 0, 2, 2, 2, 0, 2, 2, 2, 2, 0, 2, 2, 2, 2, 2, 2, 2, 2, 2, 2, 0, 2, 0, 0, 1, 0, 0, 0, 0, 2, 2, 2, 2, 2, 2, 2, 2, 0, 0, 0]]
theorem am_wGr : ∀ w ∈ u_ws am_RGr am_TGr 9, w ∈ am_tbl := by
  intro w hw
  obtain ⟨k, hk, rfl⟩ := List.mem_map.mp hw
  have hk := List.mem_range.mp hk
  match k, hk with
  | 0, _ => exact am_in 59 (by decide +kernel) (by decide +kernel)
  | 1, _ => exact am_in 61 (by decide +kernel) (by decide +kernel)
  | 2, _ => exact am_in 63 (by decide +kernel) (by decide +kernel)
  | 3, _ => exact am_in 65 (by decide +kernel) (by decide +kernel)
  | 4, _ => exact am_in 67 (by decide +kernel) (by decide +kernel)
  | 5, _ => exact am_in 69 (by decide +kernel) (by decide +kernel)
  | 6, _ => exact am_in 71 (by decide +kernel) (by decide +kernel)
  | 7, _ => exact am_in 73 (by decide +kernel) (by decide +kernel)
  | 8, _ => exact am_in 75 (by decide +kernel) (by decide +kernel)
  | k + 9, h => exact absurd h (by omega)
theorem am_yGr : ∀ k, k < 9 → parseFieldDescriptor (am_TGr k).2.2.1 = some (am_YGr k) := by decide +kernel
theorem am_nGr : ∀ a, a < 9 → ∀ b, b < 9 → a ≠ b → (am_TGr a).2.1 ≠ (am_TGr b).2.1 := by decide +kernel
theorem am_wBo : ∀ w ∈ u_ws am_RBo am_TBo 16, w ∈ am_tbl := by
  intro w hw
  obtain ⟨k, hk, rfl⟩ := List.mem_map.mp hw
  have hk := List.mem_range.mp hk
  match k, hk with
  | 0, _ => exact am_in 137 (by decide +kernel) (by decide +kernel)
  | 1, _ => exact am_in 139 (by decide +kernel) (by decide +kernel)
  | 2, _ => exact am_in 141 (by decide +kernel) (by decide +kernel)
  | 3, _ => exact am_in 143 (by decide +kernel) (by decide +kernel)
  | 4, _ => exact am_in 145 (by decide +kernel) (by decide +kernel)
  | 5, _ => exact am_in 147 (by decide +kernel) (by decide +kernel)
  | 6, _ => exact am_in 149 (by decide +kernel) (by decide +kernel)
  | 7, _ => exact am_in 151 (by decide +kernel) (by decide +kernel)
  | 8, _ => exact am_in 153 (by decide +kernel) (by decide +kernel)
  | 9, _ => exact am_in 155 (by decide +kernel) (by decide +kernel)
  | 10, _ => exact am_in 157 (by decide +kernel) (by decide +kernel)
  | 11, _ => exact am_in 159 (by decide +kernel) (by decide +kernel)
  | 12, _ => exact am_in 161 (by decide +kernel) (by decide +kernel)
  | 13, _ => exact am_in 163 (by decide +kernel) (by decide +kernel)
  | 14, _ => exact am_in 165 (by decide +kernel) (by decide +kernel)
  | 15, _ => exact am_in 167 (by decide +kernel) (by decide +kernel)
  | k + 16, h => exact absurd h (by omega)
theorem am_yBo : ∀ k, k < 16 → parseFieldDescriptor (am_TBo k).2.2.1 = some (am_YBo k) := by decide +kernel
theorem am_nBo : ∀ a, a < 16 → ∀ b, b < 16 → a ≠ b → (am_TBo a).2.1 ≠ (am_TBo b).2.1 := by decide +kernel
theorem am_wFt : ∀ w ∈ u_ws am_RFt am_TFt 9, w ∈ am_tbl := by
  intro w hw
  obtain ⟨k, hk, rfl⟩ := List.mem_map.mp hw
  have hk := List.mem_range.mp hk
  match k, hk with
  | 0, _ => exact am_in 215 (by decide +kernel) (by decide +kernel)
  | 1, _ => exact am_in 217 (by decide +kernel) (by decide +kernel)
  | 2, _ => exact am_in 219 (by decide +kernel) (by decide +kernel)
  | 3, _ => exact am_in 221 (by decide +kernel) (by decide +kernel)
  | 4, _ => exact am_in 223 (by decide +kernel) (by decide +kernel)
  | 5, _ => exact am_in 225 (by decide +kernel) (by decide +kernel)
  | 6, _ => exact am_in 227 (by decide +kernel) (by decide +kernel)
  | 7, _ => exact am_in 229 (by decide +kernel) (by decide +kernel)
  | 8, _ => exact am_in 231 (by decide +kernel) (by decide +kernel)
  | k + 9, h => exact absurd h (by omega)
theorem am_yFt : ∀ k, k < 9 → parseFieldDescriptor (am_TFt k).2.2.1 = some (am_YFt k) := by decide +kernel
theorem am_nFt : ∀ a, a < 9 → ∀ b, b < 9 → a ≠ b → (am_TFt a).2.1 ≠ (am_TFt b).2.1 := by decide +kernel
theorem am_wRa : ∀ w ∈ u_ws am_RRa am_TRa 5, w ∈ am_tbl := by
  intro w hw
  obtain ⟨k, hk, rfl⟩ := List.mem_map.mp hw
  have hk := List.mem_range.mp hk
  match k, hk with
  | 0, _ => exact am_in 188 (by decide +kernel) (by decide +kernel)
  | 1, _ => exact am_in 190 (by decide +kernel) (by decide +kernel)
  | 2, _ => exact am_in 192 (by decide +kernel) (by decide +kernel)
  | 3, _ => exact am_in 194 (by decide +kernel) (by decide +kernel)
  | 4, _ => exact am_in 196 (by decide +kernel) (by decide +kernel)
  | k + 5, h => exact absurd h (by omega)
theorem am_yRa : ∀ k, k < 5 → parseFieldDescriptor (am_TRa k).2.2.1 = some (am_YRa k) := by decide +kernel
theorem am_nRa : ∀ a, a < 5 → ∀ b, b < 5 → a ≠ b → (am_TRa a).2.1 ≠ (am_TRa b).2.1 := by decide +kernel
theorem am_wPr : ∀ w ∈ u_ws am_RPr am_TPr 7, w ∈ am_tbl := by
  intro w hw
  obtain ⟨k, hk, rfl⟩ := List.mem_map.mp hw
  have hk := List.mem_range.mp hk
  match k, hk with
  | 0, _ => exact am_in 249 (by decide +kernel) (by decide +kernel)
  | 1, _ => exact am_in 251 (by decide +kernel) (by decide +kernel)
  | 2, _ => exact am_in 253 (by decide +kernel) (by decide +kernel)
  | 3, _ => exact am_in 255 (by decide +kernel) (by decide +kernel)
  | 4, _ => exact am_in 257 (by decide +kernel) (by decide +kernel)
  | 5, _ => exact am_in 259 (by decide +kernel) (by decide +kernel)
  | 6, _ => exact am_in 261 (by decide +kernel) (by decide +kernel)
  | k + 7, h => exact absurd h (by omega)
theorem am_yPr : ∀ k, k < 7 → parseFieldDescriptor (am_TPr k).2.2.1 = some (am_YPr k) := by decide +kernel
theorem am_nPr : ∀ a, a < 7 → ∀ b, b < 7 → a ≠ b → (am_TPr a).2.1 ≠ (am_TPr b).2.1 := by decide +kernel
theorem am_wBa : ∀ w ∈ u_ws am_RBa am_TBa 4, w ∈ am_tbl := by
  intro w hw
  obtain ⟨k, hk, rfl⟩ := List.mem_map.mp hw
  have hk := List.mem_range.mp hk
  match k, hk with
  | 0, _ => exact am_in 283 (by decide +kernel) (by decide +kernel)
  | 1, _ => exact am_in 285 (by decide +kernel) (by decide +kernel)
  | 2, _ => exact am_in 287 (by decide +kernel) (by decide +kernel)
  | 3, _ => exact am_in 289 (by decide +kernel) (by decide +kernel)
  | k + 4, h => exact absurd h (by omega)
theorem am_yBa : ∀ k, k < 4 → parseFieldDescriptor (am_TBa k).2.2.1 = some (am_YBa k) := by decide +kernel
theorem am_nBa : ∀ a, a < 4 → ∀ b, b < 4 → a ≠ b → (am_TBa a).2.1 ≠ (am_TBa b).2.1 := by decide +kernel
theorem am_wRe : ∀ w ∈ u_ws am_RRe am_TRe 8, w ∈ am_tbl := by
  intro w hw
  obtain ⟨k, hk, rfl⟩ := List.mem_map.mp hw
  have hk := List.mem_range.mp hk
  match k, hk with
  | 0, _ => exact am_in 305 (by decide +kernel) (by decide +kernel)
  | 1, _ => exact am_in 307 (by decide +kernel) (by decide +kernel)
  | 2, _ => exact am_in 309 (by decide +kernel) (by decide +kernel)
  | 3, _ => exact am_in 311 (by decide +kernel) (by decide +kernel)
  | 4, _ => exact am_in 313 (by decide +kernel) (by decide +kernel)
  | 5, _ => exact am_in 315 (by decide +kernel) (by decide +kernel)
  | 6, _ => exact am_in 317 (by decide +kernel) (by decide +kernel)
  | 7, _ => exact am_in 319 (by decide +kernel) (by decide +kernel)
  | k + 8, h => exact absurd h (by omega)
theorem am_yRe : ∀ k, k < 8 → parseFieldDescriptor (am_TRe k).2.2.1 = some (am_YRe k) := by decide +kernel
theorem am_nRe : ∀ a, a < 8 → ∀ b, b < 8 → a ≠ b → (am_TRe a).2.1 ≠ (am_TRe b).2.1 := by decide +kernel
theorem am_wFi : ∀ w ∈ u_ws am_RFi am_TFi 7, w ∈ am_tbl := by
  intro w hw
  obtain ⟨k, hk, rfl⟩ := List.mem_map.mp hw
  have hk := List.mem_range.mp hk
  match k, hk with
  | 0, _ => exact am_in 337 (by decide +kernel) (by decide +kernel)
  | 1, _ => exact am_in 339 (by decide +kernel) (by decide +kernel)
  | 2, _ => exact am_in 341 (by decide +kernel) (by decide +kernel)
  | 3, _ => exact am_in 343 (by decide +kernel) (by decide +kernel)
  | 4, _ => exact am_in 345 (by decide +kernel) (by decide +kernel)
  | 5, _ => exact am_in 347 (by decide +kernel) (by decide +kernel)
  | 6, _ => exact am_in 349 (by decide +kernel) (by decide +kernel)
  | k + 7, h => exact absurd h (by omega)
theorem am_yFi : ∀ k, k < 7 → parseFieldDescriptor (am_TFi k).2.2.1 = some (am_YFi k) := by decide +kernel
theorem am_nFi : ∀ a, a < 7 → ∀ b, b < 7 → a ≠ b → (am_TFi a).2.1 ≠ (am_TFi b).2.1 := by decide +kernel
theorem am_wSc : ∀ w ∈ u_ws am_RSc am_TSc 12, w ∈ am_tbl := by
  intro w hw
  obtain ⟨k, hk, rfl⟩ := List.mem_map.mp hw
  have hk := List.mem_range.mp hk
  match k, hk with
  | 0, _ => exact am_in 375 (by decide +kernel) (by decide +kernel)
  | 1, _ => exact am_in 377 (by decide +kernel) (by decide +kernel)
  | 2, _ => exact am_in 379 (by decide +kernel) (by decide +kernel)
  | 3, _ => exact am_in 381 (by decide +kernel) (by decide +kernel)
  | 4, _ => exact am_in 383 (by decide +kernel) (by decide +kernel)
  | 5, _ => exact am_in 385 (by decide +kernel) (by decide +kernel)
  | 6, _ => exact am_in 387 (by decide +kernel) (by decide +kernel)
  | 7, _ => exact am_in 389 (by decide +kernel) (by decide +kernel)
  | 8, _ => exact am_in 391 (by decide +kernel) (by decide +kernel)
  | 9, _ => exact am_in 393 (by decide +kernel) (by decide +kernel)
  | 10, _ => exact am_in 395 (by decide +kernel) (by decide +kernel)
  | 11, _ => exact am_in 397 (by decide +kernel) (by decide +kernel)
  | k + 12, h => exact absurd h (by omega)
theorem am_ySc : ∀ k, k < 12 → parseFieldDescriptor (am_TSc k).2.2.1 = some (am_YSc k) := by decide +kernel
theorem am_nSc : ∀ a, a < 12 → ∀ b, b < 12 → a ≠ b → (am_TSc a).2.1 ≠ (am_TSc b).2.1 := by decide +kernel
theorem am_wMe : ∀ w ∈ u_ws am_RMe am_TMe 6, w ∈ am_tbl := by
  intro w hw
  obtain ⟨k, hk, rfl⟩ := List.mem_map.mp hw
  have hk := List.mem_range.mp hk
  match k, hk with
  | 0, _ => exact am_in 412 (by decide +kernel) (by decide +kernel)
  | 1, _ => exact am_in 414 (by decide +kernel) (by decide +kernel)
  | 2, _ => exact am_in 416 (by decide +kernel) (by decide +kernel)
  | 3, _ => exact am_in 418 (by decide +kernel) (by decide +kernel)
  | 4, _ => exact am_in 420 (by decide +kernel) (by decide +kernel)
  | 5, _ => exact am_in 422 (by decide +kernel) (by decide +kernel)
  | k + 6, h => exact absurd h (by omega)
theorem am_yMe : ∀ k, k < 6 → parseFieldDescriptor (am_TMe k).2.2.1 = some (am_YMe k) := by decide +kernel
theorem am_nMe : ∀ a, a < 6 → ∀ b, b < 6 → a ≠ b → (am_TMe a).2.1 ≠ (am_TMe b).2.1 := by decide +kernel
theorem am_wSp : ∀ w ∈ u_ws am_RSp am_TSp 9, w ∈ am_tbl := by
  intro w hw
  obtain ⟨k, hk, rfl⟩ := List.mem_map.mp hw
  have hk := List.mem_range.mp hk
  match k, hk with
  | 0, _ => exact am_in 434 (by decide +kernel) (by decide +kernel)
  | 1, _ => exact am_in 436 (by decide +kernel) (by decide +kernel)
  | 2, _ => exact am_in 438 (by decide +kernel) (by decide +kernel)
  | 3, _ => exact am_in 440 (by decide +kernel) (by decide +kernel)
  | 4, _ => exact am_in 442 (by decide +kernel) (by decide +kernel)
  | 5, _ => exact am_in 444 (by decide +kernel) (by decide +kernel)
  | 6, _ => exact am_in 446 (by decide +kernel) (by decide +kernel)
  | 7, _ => exact am_in 448 (by decide +kernel) (by decide +kernel)
  | 8, _ => exact am_in 450 (by decide +kernel) (by decide +kernel)
  | k + 9, h => exact absurd h (by omega)
theorem am_ySp : ∀ k, k < 9 → parseFieldDescriptor (am_TSp k).2.2.1 = some (am_YSp k) := by decide +kernel
theorem am_nSp : ∀ a, a < 9 → ∀ b, b < 9 → a ≠ b → (am_TSp a).2.1 ≠ (am_TSp b).2.1 := by decide +kernel
theorem am_wMo : ∀ w ∈ u_ws am_RMo am_TMo 51, w ∈ am_tbl := by
  intro w hw
  obtain ⟨k, hk, rfl⟩ := List.mem_map.mp hw
  have hk := List.mem_range.mp hk
  match k, hk with
  | 0, _ => exact am_in 1108 (by decide +kernel) (by decide +kernel)
  | 1, _ => exact am_in 1110 (by decide +kernel) (by decide +kernel)
  | 2, _ => exact am_in 1112 (by decide +kernel) (by decide +kernel)
  | 3, _ => exact am_in 1114 (by decide +kernel) (by decide +kernel)
  | 4, _ => exact am_in 1116 (by decide +kernel) (by decide +kernel)
  | 5, _ => exact am_in 1118 (by decide +kernel) (by decide +kernel)
  | 6, _ => exact am_in 1120 (by decide +kernel) (by decide +kernel)
  | 7, _ => exact am_in 1122 (by decide +kernel) (by decide +kernel)
  | 8, _ => exact am_in 1124 (by decide +kernel) (by decide +kernel)
  | 9, _ => exact am_in 1126 (by decide +kernel) (by decide +kernel)
  | 10, _ => exact am_in 1128 (by decide +kernel) (by decide +kernel)
  | 11, _ => exact am_in 1130 (by decide +kernel) (by decide +kernel)
  | 12, _ => exact am_in 1132 (by decide +kernel) (by decide +kernel)
  | 13, _ => exact am_in 1134 (by decide +kernel) (by decide +kernel)
  | 14, _ => exact am_in 1136 (by decide +kernel) (by decide +kernel)
  | 15, _ => exact am_in 1138 (by decide +kernel) (by decide +kernel)
  | 16, _ => exact am_in 1140 (by decide +kernel) (by decide +kernel)
  | 17, _ => exact am_in 1142 (by decide +kernel) (by decide +kernel)
  | 18, _ => exact am_in 1144 (by decide +kernel) (by decide +kernel)
  | 19, _ => exact am_in 1146 (by decide +kernel) (by decide +kernel)
  | 20, _ => exact am_in 1148 (by decide +kernel) (by decide +kernel)
  | 21, _ => exact am_in 1150 (by decide +kernel) (by decide +kernel)
  | 22, _ => exact am_in 1152 (by decide +kernel) (by decide +kernel)
  | 23, _ => exact am_in 1154 (by decide +kernel) (by decide +kernel)
  | 24, _ => exact am_in 1156 (by decide +kernel) (by decide +kernel)
  | 25, _ => exact am_in 1158 (by decide +kernel) (by decide +kernel)
  | 26, _ => exact am_in 1160 (by decide +kernel) (by decide +kernel)
  | 27, _ => exact am_in 1162 (by decide +kernel) (by decide +kernel)
  | 28, _ => exact am_in 1164 (by decide +kernel) (by decide +kernel)
  | 29, _ => exact am_in 1166 (by decide +kernel) (by decide +kernel)
  | 30, _ => exact am_in 1168 (by decide +kernel) (by decide +kernel)
  | 31, _ => exact am_in 1170 (by decide +kernel) (by decide +kernel)
  | 32, _ => exact am_in 1172 (by decide +kernel) (by decide +kernel)
  | 33, _ => exact am_in 1174 (by decide +kernel) (by decide +kernel)
  | 34, _ => exact am_in 1176 (by decide +kernel) (by decide +kernel)
  | 35, _ => exact am_in 1178 (by decide +kernel) (by decide +kernel)
  | 36, _ => exact am_in 1180 (by decide +kernel) (by decide +kernel)
  | 37, _ => exact am_in 1182 (by decide +kernel) (by decide +kernel)
  | 38, _ => exact am_in 1184 (by decide +kernel) (by decide +kernel)
  | 39, _ => exact am_in 1186 (by decide +kernel) (by decide +kernel)
  | 40, _ => exact am_in 1188 (by decide +kernel) (by decide +kernel)
  | 41, _ => exact am_in 1190 (by decide +kernel) (by decide +kernel)
  | 42, _ => exact am_in 1192 (by decide +kernel) (by decide +kernel)
  | 43, _ => exact am_in 1194 (by decide +kernel) (by decide +kernel)
  | 44, _ => exact am_in 1196 (by decide +kernel) (by decide +kernel)
  | 45, _ => exact am_in 1198 (by decide +kernel) (by decide +kernel)
  | 46, _ => exact am_in 1200 (by decide +kernel) (by decide +kernel)
  | 47, _ => exact am_in 1202 (by decide +kernel) (by decide +kernel)
  | 48, _ => exact am_in 1204 (by decide +kernel) (by decide +kernel)
  | 49, _ => exact am_in 1206 (by decide +kernel) (by decide +kernel)
  | 50, _ => exact am_in 1208 (by decide +kernel) (by decide +kernel)
  | k + 51, h => exact absurd h (by omega)
theorem am_yMo : ∀ k, k < 51 → parseFieldDescriptor (am_TMo k).2.2.1 = some (am_YMo k) := by decide +kernel
theorem am_nMo : ∀ a, a < 51 → ∀ b, b < 51 → a ≠ b → (am_TMo a).2.1 ≠ (am_TMo b).2.1 := by decide +kernel
/-- every class's words, types, names -/
theorem am_cls {ci N : Nat} {C : String} {T : u_T} (h : am_cl[ci]? = some (C, T, N)) : (∀ w ∈ u_ws C T N, w ∈ am_tbl) ∧ (∀ k, k < N → parseFieldDescriptor (T k).2.2.1 = some (am_Y ci k)) ∧ (∀ a, a < N → ∀ b, b < N → a ≠ b → (T a).2.1 ≠ (T b).2.1) ∧ (am_TG.getD ci []).length = N ∧ ci < 12 := by
  match ci, h with
  | 0, h => cases h; exact ⟨am_wGr, am_yGr, am_nGr, by decide +kernel, by decide⟩
  | 1, h => cases h; exact ⟨am_wBo, am_yBo, am_nBo, by decide +kernel, by decide⟩
  | 2, h => cases h; exact ⟨am_wFt, am_yFt, am_nFt, by decide +kernel, by decide⟩
  | 3, h => cases h; exact ⟨am_wRa, am_yRa, am_nRa, by decide +kernel, by decide⟩
  | 4, h => cases h; exact ⟨am_wPr, am_yPr, am_nPr, by decide +kernel, by decide⟩
  | 5, h => cases h; exact ⟨am_wBa, am_yBa, am_nBa, by decide +kernel, by decide⟩
  | 6, h => cases h; exact ⟨am_wRe, am_yRe, am_nRe, by decide +kernel, by decide⟩
  | 7, h => cases h; exact ⟨am_wFi, am_yFi, am_nFi, by decide +kernel, by decide⟩
  | 8, h => cases h; exact ⟨am_wSc, am_ySc, am_nSc, by decide +kernel, by decide⟩
  | 9, h => cases h; exact ⟨am_wMe, am_yMe, am_nMe, by decide +kernel, by decide⟩
  | 10, h => cases h; exact ⟨am_wSp, am_ySp, am_nSp, by decide +kernel, by decide⟩
  | 11, h => cases h; exact ⟨am_wMo, am_yMo, am_nMo, by decide +kernel, by decide⟩
  | ci + 12, h => simp at h
def am_len : List Nat := [4, 3, 4, 5, 5, 2, 3]
def am_byt : List (List Int32) := [[115, 108, 111, 119], [102, 105, 116], [109, 111, 118, 101], [99, 108, 111, 99, 107], [115, 112, 108, 105, 116], [98, 121], [97, 110, 100]]
/-- entry, text, number of the texts -/
def am_txt : List (Nat × String × Nat) := [(92, "slow", 0), (94, "fit", 1), (96, "move", 2), (98, "clock", 3), (100, "split", 4), (108, "by", 5), (110, "and", 6)]
def am_nst : List Cond := [.methodLinkNest "ShakePictures" 9 ⟨"ShakePictures$Ground", "<init>", "()V"⟩ "ShakePictures", .methodLinkNest "ShakePictures" 16 ⟨"ShakePictures$Book", "<init>", "()V"⟩ "ShakePictures", .methodLinkNest "ShakePictures$Resolver" 11 ⟨"ShakePictures$Basis", "<init>", "()V"⟩ "ShakePictures", .methodLinkNest "ShakePictures$Fitter" 122 ⟨"ShakePictures", "missedBy", "(III)I"⟩ "ShakePictures"]
end
section
/-! THE FLAT MACHINE: a method is walked over unbounded ints and longs, cells by their numbers; the rows of the kit are used once, in each rule's proof. -/
abbrev am_AV : Type := Int ⊕ (Int ⊕ (Nat ⊕ Unit))
abbrev Zi (z : Int) : am_AV := Sum.inl z
abbrev Zl (z : Int) : am_AV := Sum.inr (Sum.inl z)
abbrev Zr (k : Nat) : am_AV := Sum.inr (Sum.inr (Sum.inl k))
/-- a reference of which nothing is known -/
abbrev Zo : am_AV := Sum.inr (Sum.inr (Sum.inr ()))
/-- the store: ints (booleans) and longs, by cell and place -/
abbrev am_St : Type := (Nat → Nat → Int) × (Nat → Nat → Int)
/-- the shape: of each cell its kind (a class below 12; 12 int[], 13 long[], 14 boolean[], 15 int[][], 16 long[][]), its length, its references -/
abbrev am_Sh : Type := List (Nat × Nat × List (Option Nat))
/-- a method: name, bytes, locals, what it returns, its room -/
abbrev am_MT : Type := MethodName × ByteArray × Nat × Option FieldType × Room
abbrev am_c (M : am_MT) : ByteArray := M.2.1
/-- what a walk's addresses and classes are: first new cell, cells of old (0: the script, i + 1: text i, i + 8: its bytes), classes and slots, array classes, the script's length and contents -/
abbrev am_G : Type := Nat × (Nat → Nat) × va_G × ((Nat → ClassId) × Option Nat) × Nat × (Nat → Int32)
abbrev am_n0 (g : am_G) : Nat := g.1
abbrev am_D (g : am_G) : va_G := g.2.2.1
abbrev am_cy (g : am_G) : Nat → ClassId := g.2.2.2.1.1
abbrev am_fm (g : am_G) : Option Nat := g.2.2.2.1.2
def am_ad (g : am_G) (k : Nat) : Nat := if k < 1000000 then g.1 + k else g.2.1 (k - 1000000)
def am_cv (g : am_G) : am_AV → Value
  | .inl z => .int (Int32.ofInt z)
  | .inr (.inl z) => .long (Int64.ofInt z)
  | .inr (.inr (.inl k)) => .ref (am_ad g k)
  | .inr (.inr (.inr _)) => va_rf (am_fm g)
def am_fv (g : am_G) (σ : am_St) (k : Nat) (rs : List (Option Nat)) (t j : Nat) : Value :=
  if t = 0 then .int (Int32.ofInt (σ.1 k j)) else if t = 1 then .long (Int64.ofInt (σ.2 k j)) else va_rf ((rs.getD j none).map (am_ad g))
def am_rr (g : am_G) (rs : List (Option Nat)) : Nat → Option Nat := fun j => (rs.getD j none).map (am_ad g)
/-- a cell as the kit has it -/
def am_ce (g : am_G) (σ : am_St) (k : Nat) (q : Nat × Nat × List (Option Nat)) : va_E :=
  if q.1 < 12 then .inr (q.1, (am_TG.getD q.1 []).mapIdx fun j t => am_fv g σ k q.2.2 t j)
  else if q.1 = 12 then .inl (am_cy g 0, q.2.1, .inl (fun j => Int32.ofInt (σ.1 k j)))
  else if q.1 = 13 then .inl (am_cy g 1, q.2.1, .inr (.inl (fun j => Int64.ofInt (σ.2 k j))))
  else if q.1 = 14 then .inl (am_cy g 2, q.2.1, .inl (fun j => Int32.ofInt (σ.1 k j)))
  else if q.1 = 15 then .inl (am_cy g 3, q.2.1, .inr (.inr (.inr (.inr (am_rr g q.2.2)))))
  else .inl (am_cy g 4, q.2.1, .inr (.inr (.inr (.inr (am_rr g q.2.2)))))
def am_ws (g : am_G) (sh : am_Sh) (σ : am_St) : va_W := sh.mapIdx fun k q => (am_n0 g + k, am_ce g σ k q)
theorem am_ws_at {g : am_G} {sh : am_Sh} {σ : am_St} {k : Nat} {q : Nat × Nat × List (Option Nat)} (h : sh[k]? = some q) : (am_ws g sh σ)[k]? = some (am_n0 g + k, am_ce g σ k q) := by
  simp [am_ws, h]
theorem am_ws_inv {g : am_G} {sh : am_Sh} {σ : am_St} {k : Nat} {x : Nat × va_E} (h : (am_ws g sh σ)[k]? = some x) : ∃ q, sh[k]? = some q ∧ x = (am_n0 g + k, am_ce g σ k q) := by
  simp only [am_ws, List.getElem?_mapIdx, Option.map_eq_some_iff] at h
  obtain ⟨q, h1, h2⟩ := h
  exact ⟨q, h1, h2.symm⟩
def am_A (g : am_G) : Nat → Prop := fun q => am_n0 g ≤ q
theorem am_ws_D (g : am_G) (sh : am_Sh) (σ : am_St) : va_D (am_A g) (am_ws g sh σ) := by
  refine ⟨fun i j x y hx hy e => ?_, fun k x hx => ?_⟩
  · obtain ⟨q, -, rfl⟩ := am_ws_inv hx
    obtain ⟨q', -, rfl⟩ := am_ws_inv hy
    exact Nat.add_left_cancel e
  · obtain ⟨q, -, rfl⟩ := am_ws_inv hx
    exact Nat.le_add_right _ _
/-- a cell is changed: the list of cells with that place set -/
theorem am_ws_set {g : am_G} {sh : am_Sh} {σ σ' : am_St} {k : Nat} {q : Nat × Nat × List (Option Nat)} (h : sh[k]? = some q) (ho : ∀ k' q', k' ≠ k → sh[k']? = some q' → am_ce g σ' k' q' = am_ce g σ k' q') :
    (am_ws g sh σ).set k (am_n0 g + k, am_ce g σ' k q) = am_ws g sh σ' := by
  apply List.ext_getElem?
  intro i
  rw [List.getElem?_set]
  by_cases e : k = i
  · subst e
    have hl : k < (am_ws g sh σ).length := by
      have := (List.getElem?_eq_some_iff.mp h).1
      simpa [am_ws] using this
    rw [if_pos rfl, if_pos hl, am_ws_at h]
  · rw [if_neg e]
    cases hq : sh[i]? with
    | none => simp [am_ws, hq]
    | some q' => rw [am_ws_at hq, am_ws_at hq, ho i q' (fun z => e z.symm) hq]
/-- one place of the store -/
def am_up (f : Nat → Nat → Int) (k j : Nat) (v : Int) : Nat → Nat → Int := fun k' j' => if k' = k then (if j' = j then v else f k j') else f k' j'
theorem am_up_row (f : Nat → Nat → Int) (k j : Nat) (v : Int) : am_up f k j v k = fun j' => if j' = j then v else f k j' := by
  funext j'; simp [am_up]
theorem am_up_o {f : Nat → Nat → Int} {k j k' : Nat} {v : Int} (h : k' ≠ k) : am_up f k j v k' = f k' := by
  funext j'; simp [am_up, h]
theorem am_ce_o {g : am_G} {σ σ' : am_St} {k : Nat} (h1 : σ'.1 k = σ.1 k) (h2 : σ'.2 k = σ.2 k) (q : Nat × Nat × List (Option Nat)) : am_ce g σ' k q = am_ce g σ k q := by
  have e : ∀ (rs : List (Option Nat)) (t j : Nat), am_fv g σ' k rs t j = am_fv g σ k rs t j := fun rs t j => by simp [am_fv, h1, h2]
  unfold am_ce
  simp [h1, h2, e]
/-- the locals -/
def am_L (g : am_G) (ls : Array Slot) (nL : Nat) (lv : List (Option am_AV)) : Prop := ls.size = nL ∧ lv_wf ls ∧ lv.length = nL ∧ ∀ (i : Nat) (v : am_AV), lv[i]? = some (some v) → ls[i]? = some (.val (am_cv g v))
/-- the constants of old that every method's start knows: the texts, the script; links between nest mates -/
def am_X (g : am_G) (s : State) : Prop :=
  vk_S 7 am_len am_byt (fun i => g.2.1 (i + 1)) (fun i => g.2.1 (i + 8)) (am_A g) s s.heap ∧ (∀ q ∈ am_txt, vk_R "ShakePictures$Script" q.1 q.2.1 (g.2.1 (q.2.2 + 1)) s) ∧ va_X (g.2.1 0) g.2.2.2.2.1 g.2.2.2.2.2 s s.heap ∧ g.2.1 0 < am_n0 g ∧ (∀ w ∈ am_nst, va_Nw w s) ∧ (∀ ty ∈ [FieldType.int, FieldType.long], (Cond.arrayOver (.array ty)).before #[] s = true) ∧
  va_Z "java/lang/String" "COMPACT_STRINGS" "Z" (.int 1) (am_A g) s s.heap ∧ va_Z "jdk/internal/util/Preconditions" "SIOOBE_FORMATTER" "Ljava/util/function/BiFunction;" (va_rf (am_fm g)) (am_A g) s s.heap
def am_tys (g : am_G) : List (ClassId × FieldType) := [(am_cy g 0, .int), (am_cy g 1, .long), (am_cy g 2, .boolean), (am_cy g 3, .array .int), (am_cy g 4, .array .long)]
def am_K (g : am_G) (s : State) : Prop := va_K (am_D g) am_cl (am_tys g) s ∧ am_n0 g ≤ s.heap.size ∧ am_X g s
/-- the script: its length and its ints -/
abbrev am_Sc : Type := Nat × (Nat → Int32)
def am_CX (x : am_Sc) (M : am_MT) (g : am_G) (p : Program) (s : State) (m : MethodId) (args : Array Value) (meth : Method) (c : Code) : Prop :=
  p.tables.exec = Jvm.exec ∧ c.code = am_c M ∧ meth.sig.returnType = M.2.2.2.1 ∧ c.maxLocals = M.2.2.1 ∧ s.vm.findClass M.1.cls = some m.cls ∧ (∀ w ∈ am_tbl, w.before args s = true) ∧ am_K g s ∧ meth.locks = false ∧ meth.name = M.1.name ∧ g.2.2.2.2 = x
/-- a method's end -/
def am_Q (g : am_G) (Po : Option am_AV → am_Sh → am_St → Prop) : Array Value → State → Outcome → State → Prop := fun _ st o t =>
  (∃ (r : Option am_AV) (sh : am_Sh) (σ : am_St), o = .returned (r.map (am_cv g)) ∧ Po r sh σ ∧ va_P (am_D g) am_cl (am_ws g sh σ) t.heap ∧ t.heap.size = am_n0 g + sh.length) ∧ va_F (am_A g) st t
/-- FROM HERE the method comes to an end with Po: at pc, with locals lv and stack st, over the cells sh, σ; so many cells and slots made so far -/
def am_V (x : am_Sc) (M : am_MT) (Po : Option am_AV → am_Sh → am_St → Prop) (cs : Nat × Nat) (sh : am_Sh) (σ : am_St) (pc : Nat) (lv : List (Option am_AV)) (st : List am_AV) : Prop :=
  ∀ (p : Program) (l : Launch) (e : Env) (s : State) (m : MethodId) (args : Array Value) (below : List Frame) (meth : Method) (c : Code) (g : am_G), am_CX x M g p s m args meth c →
    ∀ (H : Heap) (locs : List Loc) (ls : Array Slot), va_P (am_D g) am_cl (am_ws g sh σ) H → s.heap.size + cs.1 = am_n0 g + sh.length → va_S (am_A g) s.heap H locs → am_L g ls M.2.2.1 lv →
      W p l e M.2.2.2.2 s m args below meth c H locs cs.1 cs.2 (MQ below (am_Q g Po) args s M.2.2.2.2.cells M.2.2.2.2.slots (am_A g)) (F0 m pc ls (st.map (am_cv g)))
end
section
/-! ===== the rules: a row an instruction ===== -/
abbrev am_r (a : Int) : Prop := -2147483648 ≤ a ∧ a < 2147483648
abbrev am_rl (a : Int) : Prop := -9223372036854775808 ≤ a ∧ a < 9223372036854775808
theorem am_toInt {a : Int} (h : am_r a) : (Int32.ofInt a).toInt = a := by
  have h1 := h.1; have h2 := h.2
  rw [Int32.toInt_ofInt]
  show a.bmod 4294967296 = a
  exact Int.bmod_eq_of_le (by omega) (by omega)
theorem am_toIntL {a : Int} (h : am_rl a) : (Int64.ofInt a).toInt = a := by
  have h1 := h.1; have h2 := h.2
  rw [Int64.toInt_ofInt]
  show a.bmod 18446744073709551616 = a
  exact Int.bmod_eq_of_le (by omega) (by omega)
theorem am_lt {a b : Int} (ha : am_r a) (hb : am_r b) : Int32.ofInt a < Int32.ofInt b ↔ a < b := by rw [Int32.lt_iff_toInt_lt, am_toInt ha, am_toInt hb]
theorem am_le {a b : Int} (ha : am_r a) (hb : am_r b) : Int32.ofInt a ≤ Int32.ofInt b ↔ a ≤ b := by rw [Int32.le_iff_toInt_le, am_toInt ha, am_toInt hb]
theorem am_eq {a b : Int} (ha : am_r a) (hb : am_r b) : Int32.ofInt a = Int32.ofInt b ↔ a = b := by rw [← Int32.toInt_inj, am_toInt ha, am_toInt hb]
theorem am_ltL {a b : Int} (ha : am_rl a) (hb : am_rl b) : Int64.ofInt a < Int64.ofInt b ↔ a < b := by rw [Int64.lt_iff_toInt_lt, am_toIntL ha, am_toIntL hb]
theorem am_eqL {a b : Int} (ha : am_rl a) (hb : am_rl b) : Int64.ofInt a = Int64.ofInt b ↔ a = b := by rw [← Int64.toInt_inj, am_toIntL ha, am_toIntL hb]
def am_nl (lv : List (Option am_AV)) (i : Nat) : Bool := match i with
  | 0 => true
  | j + 1 => match lv[j]? with
    | some (some (.inr (.inl _))) => false
    | _ => true
def am_lvl (g : am_G) (lv : List (Option am_AV)) : List (Nat × Value) := lv.zipIdx.filterMap fun q => q.1.map fun v => (q.2, am_cv g v)
theorem am_lvl_in {g : am_G} {lv : List (Option am_AV)} {q : Nat × Value} : q ∈ am_lvl g lv ↔ ∃ v, lv[q.1]? = some (some v) ∧ q.2 = am_cv g v := by
  unfold am_lvl
  rw [List.mem_filterMap]
  constructor
  · rintro ⟨⟨x, i⟩, h1, h2⟩
    rw [List.mem_zipIdx_iff_getElem?] at h1
    cases x with
    | none => simp at h2
    | some v =>
      simp at h2
      subst h2
      exact ⟨v, h1, rfl⟩
  · rintro ⟨v, h1, h2⟩
    refine ⟨(some v, q.1), List.mem_zipIdx_iff_getElem?.mpr h1, ?_⟩
    simp [← h2]
theorem am_L_has {g : am_G} {ls : Array Slot} {nL : Nat} {lv : List (Option am_AV)} (h : am_L g ls nL lv) : lv_has ls nL (am_lvl g lv) := by
  refine ⟨h.1, h.2.1, fun q hq => ?_⟩
  obtain ⟨v, h1, h2⟩ := am_lvl_in.mp hq
  rw [h2]
  exact h.2.2.2 q.1 v h1
theorem am_cat (g : am_G) (v : am_AV) : (am_cv g v).category = 2 ↔ ∃ z, v = Zl z := by
  rcases v with z | z | k | u
  · simp [am_cv, Value.category]
  · simp [am_cv, Value.category]
  · simp [am_cv, Value.category]
  · rcases va_rf_or (am_fm g) with h | ⟨a, h⟩ <;> simp [am_cv, h, Value.category]
theorem am_st1 {g : am_G} {ls' : Array Slot} {nL i : Nat} {lv : List (Option am_AV)} {v : am_AV} (hlen : lv.length = nL) (hn : am_nl lv i = true)
    (h : lv_has ls' nL ((i, am_cv g v) :: (am_lvl g lv).filter (fun q => !(q.1 == i) && !(q.1 + 1 == i && q.2.category == 2)))) : am_L g ls' nL (lv.set i (some v)) := by
  refine ⟨h.1, h.2.1, by simp [hlen], fun j w hj => ?_⟩
  rw [List.getElem?_set] at hj
  by_cases e : i = j
  · subst e
    rw [if_pos rfl] at hj
    split at hj
    · cases hj
      exact h.2.2 (i, am_cv g v) List.mem_cons_self
    · cases hj
  · rw [if_neg e] at hj
    refine h.2.2 (j, am_cv g w) (List.mem_cons_of_mem _ (List.mem_filter.mpr ⟨am_lvl_in.mpr ⟨w, hj, rfl⟩, ?_⟩))
    simp only [Bool.and_eq_true, Bool.not_eq_true', beq_eq_false_iff_ne, Bool.and_eq_false_iff, ne_eq]
    refine ⟨fun z => e z.symm, ?_⟩
    by_cases e2 : j + 1 = i
    · right
      intro hc
      obtain ⟨z, rfl⟩ := (am_cat g w).mp hc
      subst e2
      simp [am_nl, hj] at hn
    · left; exact e2
theorem am_st2 {g : am_G} {ls' : Array Slot} {nL i : Nat} {lv : List (Option am_AV)} {v : am_AV} (hlen : lv.length = nL) (hn : am_nl lv i = true)
    (h : lv_has ls' nL ((i, am_cv g v) :: (am_lvl g lv).filter (fun q => !(q.1 == i) && (!(q.1 == i + 1) && !(q.1 + 1 == i && q.2.category == 2))))) : am_L g ls' nL ((lv.set i (some v)).set (i + 1) none) := by
  refine ⟨h.1, h.2.1, by simp [hlen], fun j w hj => ?_⟩
  rw [List.getElem?_set] at hj
  by_cases e1 : i + 1 = j
  · subst e1
    rw [if_pos rfl] at hj
    split at hj <;> cases hj
  rw [if_neg e1, List.getElem?_set] at hj
  by_cases e : i = j
  · subst e
    rw [if_pos rfl] at hj
    split at hj
    · cases hj
      exact h.2.2 (i, am_cv g v) List.mem_cons_self
    · cases hj
  · rw [if_neg e] at hj
    refine h.2.2 (j, am_cv g w) (List.mem_cons_of_mem _ (List.mem_filter.mpr ⟨am_lvl_in.mpr ⟨w, hj, rfl⟩, ?_⟩))
    simp only [Bool.and_eq_true, Bool.not_eq_true', beq_eq_false_iff_ne, Bool.and_eq_false_iff, ne_eq]
    refine ⟨fun z => e z.symm, fun z => e1 z.symm, ?_⟩
    by_cases e2 : j + 1 = i
    · right
      intro hc
      obtain ⟨z, rfl⟩ := (am_cat g w).mp hc
      subst e2
      simp [am_nl, hj] at hn
    · left; exact e2
section AMR
variable {x : am_Sc} {M : am_MT} {Po : Option am_AV → am_Sh → am_St → Prop} {cs : Nat × Nat} {sh : am_Sh} {σ : am_St} {pc : Nat} {lv : List (Option am_AV)} {st : List am_AV}
theorem V_iconst {n : Int} (hd : decode (am_c M) pc = .ok (.iconst n, 1)) (k : am_V x M Po cs sh σ (pc + 1) lv (Zi n :: st)) : am_V x M Po cs sh σ pc lv st := by
  intro p l e s m args below meth c g X H locs ls hP hz hS hl
  obtain ⟨hx, hb, hret, hml, hown, hts, hK, hlk, hnm, hxs⟩ := id X
  exact lv_iconst hx hb hd rfl (k p l e s m args below meth c g X H locs ls hP hz hS hl)
theorem V_bipush {n : Int} (hd : decode (am_c M) pc = .ok (.bipush n, 2)) (k : am_V x M Po cs sh σ (pc + 2) lv (Zi n :: st)) (hv : (Int8.ofInt n).toInt32 = Int32.ofInt n := by decide) : am_V x M Po cs sh σ pc lv st := by
  intro p l e s m args below meth c g X H locs ls hP hz hS hl
  obtain ⟨hx, hb, hret, hml, hown, hts, hK, hlk, hnm, hxs⟩ := id X
  exact lv_bipush hx hb hd hv (k p l e s m args below meth c g X H locs ls hP hz hS hl)
theorem V_sipush {n : Int} (hd : decode (am_c M) pc = .ok (.sipush n, 3)) (k : am_V x M Po cs sh σ (pc + 3) lv (Zi n :: st)) (hv : (Int16.ofInt n).toInt32 = Int32.ofInt n := by decide) : am_V x M Po cs sh σ pc lv st := by
  intro p l e s m args below meth c g X H locs ls hP hz hS hl
  obtain ⟨hx, hb, hret, hml, hown, hts, hK, hlk, hnm, hxs⟩ := id X
  exact lv_sipush hx hb hd hv (k p l e s m args below meth c g X H locs ls hP hz hS hl)
theorem V_lconst {n : Fin 2} (z : Int) (hd : decode (am_c M) pc = .ok (.lconst n, 1)) (k : am_V x M Po cs sh σ (pc + 1) lv (Zl z :: st)) (hv : Int64.ofNat (n : Nat) = Int64.ofInt z := by decide) : am_V x M Po cs sh σ pc lv st := by
  intro p l e s m args below meth c g X H locs ls hP hz hS hl
  obtain ⟨hx, hb, hret, hml, hown, hts, hK, hlk, hnm, hxs⟩ := id X
  exact lv_lconst hx hb hd hv (k p l e s m args below meth c g X H locs ls hP hz hS hl)
theorem V_ldc {n : Nat} (z : Int) (hd : decode (am_c M) pc = .ok (.ldc n, 2)) (hw : Cond.constant M.1.cls n (Int32.ofInt z) ∈ am_tbl) (k : am_V x M Po cs sh σ (pc + 2) lv (Zi z :: st)) : am_V x M Po cs sh σ pc lv st := by
  intro p l e s m args below meth c g X H locs ls hP hz hS hl
  obtain ⟨hx, hb, hret, hml, hown, hts, hK, hlk, hnm, hxs⟩ := id X
  exact lv_ldc hx hb hown (hts _ hw) hd (k p l e s m args below meth c g X H locs ls hP hz hS hl)
theorem V_ldcw {n : Nat} (z : Int) (hd : decode (am_c M) pc = .ok (.ldc_w n, 3)) (hw : Cond.constant M.1.cls n (Int32.ofInt z) ∈ am_tbl) (k : am_V x M Po cs sh σ (pc + 3) lv (Zi z :: st)) : am_V x M Po cs sh σ pc lv st := by
  intro p l e s m args below meth c g X H locs ls hP hz hS hl
  obtain ⟨hx, hb, hret, hml, hown, hts, hK, hlk, hnm, hxs⟩ := id X
  exact lv_ldcw hx hb hown (hts _ hw) hd (k p l e s m args below meth c g X H locs ls hP hz hS hl)
theorem V_ldc2 {n : Nat} (z : Int) (hd : decode (am_c M) pc = .ok (.ldc2_w n, 3)) (hw : Cond.constantLong M.1.cls n (Int64.ofInt z) ∈ am_tbl) (k : am_V x M Po cs sh σ (pc + 3) lv (Zl z :: st)) : am_V x M Po cs sh σ pc lv st := by
  intro p l e s m args below meth c g X H locs ls hP hz hS hl
  obtain ⟨hx, hb, hret, hml, hown, hts, hK, hlk, hnm, hxs⟩ := id X
  exact lv_ldc2 hx hb hown (hts _ hw) hd (k p l e s m args below meth c g X H locs ls hP hz hS hl)
theorem V_iload_n {j : Fin 4} {y : Int} (hd : decode (am_c M) pc = .ok (.iload_n j, 1)) (h : lv[(j : Nat)]? = some (some (Zi y))) (k : am_V x M Po cs sh σ (pc + 1) lv (Zi y :: st)) : am_V x M Po cs sh σ pc lv st := by
  intro p l e s m args below meth c g X H locs ls hP hz hS hl
  obtain ⟨hx, hb, hret, hml, hown, hts, hK, hlk, hnm, hxs⟩ := id X
  exact lv_iload_n hx hb hd rfl (hl.2.2.2 _ _ h) (k p l e s m args below meth c g X H locs ls hP hz hS hl)
theorem V_iload {j : Nat} {y : Int} (hd : decode (am_c M) pc = .ok (.iload j, 2)) (h : lv[j]? = some (some (Zi y))) (k : am_V x M Po cs sh σ (pc + 2) lv (Zi y :: st)) : am_V x M Po cs sh σ pc lv st := by
  intro p l e s m args below meth c g X H locs ls hP hz hS hl
  obtain ⟨hx, hb, hret, hml, hown, hts, hK, hlk, hnm, hxs⟩ := id X
  exact lv_iload hx hb hd (hl.2.2.2 _ _ h) (k p l e s m args below meth c g X H locs ls hP hz hS hl)
theorem V_lload_n {j : Fin 4} {y : Int} (hd : decode (am_c M) pc = .ok (.lload_n j, 1)) (h : lv[(j : Nat)]? = some (some (Zl y))) (k : am_V x M Po cs sh σ (pc + 1) lv (Zl y :: st)) : am_V x M Po cs sh σ pc lv st := by
  intro p l e s m args below meth c g X H locs ls hP hz hS hl
  obtain ⟨hx, hb, hret, hml, hown, hts, hK, hlk, hnm, hxs⟩ := id X
  exact lv_lload_n hx hb hd rfl (hl.2.2.2 _ _ h) (k p l e s m args below meth c g X H locs ls hP hz hS hl)
theorem V_lload {j : Nat} {y : Int} (hd : decode (am_c M) pc = .ok (.lload j, 2)) (h : lv[j]? = some (some (Zl y))) (k : am_V x M Po cs sh σ (pc + 2) lv (Zl y :: st)) : am_V x M Po cs sh σ pc lv st := by
  intro p l e s m args below meth c g X H locs ls hP hz hS hl
  obtain ⟨hx, hb, hret, hml, hown, hts, hK, hlk, hnm, hxs⟩ := id X
  exact lv_lload hx hb hd (hl.2.2.2 _ _ h) (k p l e s m args below meth c g X H locs ls hP hz hS hl)
theorem V_aload_n {j : Fin 4} {y : Nat} (hd : decode (am_c M) pc = .ok (.aload_n j, 1)) (h : lv[(j : Nat)]? = some (some (Zr y))) (k : am_V x M Po cs sh σ (pc + 1) lv (Zr y :: st)) : am_V x M Po cs sh σ pc lv st := by
  intro p l e s m args below meth c g X H locs ls hP hz hS hl
  obtain ⟨hx, hb, hret, hml, hown, hts, hK, hlk, hnm, hxs⟩ := id X
  exact lv_aload_n hx hb hd rfl (hl.2.2.2 _ _ h) (k p l e s m args below meth c g X H locs ls hP hz hS hl)
theorem V_aload {j : Nat} {y : Nat} (hd : decode (am_c M) pc = .ok (.aload j, 2)) (h : lv[j]? = some (some (Zr y))) (k : am_V x M Po cs sh σ (pc + 2) lv (Zr y :: st)) : am_V x M Po cs sh σ pc lv st := by
  intro p l e s m args below meth c g X H locs ls hP hz hS hl
  obtain ⟨hx, hb, hret, hml, hown, hts, hK, hlk, hnm, hxs⟩ := id X
  exact lv_aload hx hb hd (hl.2.2.2 _ _ h) (k p l e s m args below meth c g X H locs ls hP hz hS hl)
theorem V_istore_n {j : Fin 4} {y : Int} (hd : decode (am_c M) pc = .ok (.istore_n j, 1)) (hn : (am_nl lv j && Nat.blt j lv.length) = true) (k : am_V x M Po cs sh σ (pc + 1) (lv.set j (some (Zi y))) st) : am_V x M Po cs sh σ pc lv (Zi y :: st) := by
  intro p l e s m args below meth c g X H locs ls hP hz hS hl
  obtain ⟨hx, hb, hret, hml, hown, hts, hK, hlk, hnm, hxs⟩ := id X
  have hn1 := (Bool.and_eq_true_iff.mp hn).1
  have hn2 : (j : Nat) < lv.length := Nat.le_of_ble_eq_true (Bool.and_eq_true_iff.mp hn).2
  exact lv_istore_n hx hb hd rfl (am_L_has hl) (by rw [← hl.2.2.1]; exact hn2) rfl (fun ls' h' => k p l e s m args below meth c g X H locs ls' hP hz hS (am_st1 (v := Zi y) hl.2.2.1 hn1 h'))
theorem V_istore {j : Nat} {y : Int} (hd : decode (am_c M) pc = .ok (.istore j, 2)) (hn : (am_nl lv j && Nat.blt j lv.length) = true) (k : am_V x M Po cs sh σ (pc + 2) (lv.set j (some (Zi y))) st) : am_V x M Po cs sh σ pc lv (Zi y :: st) := by
  intro p l e s m args below meth c g X H locs ls hP hz hS hl
  obtain ⟨hx, hb, hret, hml, hown, hts, hK, hlk, hnm, hxs⟩ := id X
  have hn1 := (Bool.and_eq_true_iff.mp hn).1
  have hn2 : (j : Nat) < lv.length := Nat.le_of_ble_eq_true (Bool.and_eq_true_iff.mp hn).2
  exact lv_istore hx hb hd (am_L_has hl) (by rw [← hl.2.2.1]; exact hn2) rfl (fun ls' h' => k p l e s m args below meth c g X H locs ls' hP hz hS (am_st1 (v := Zi y) hl.2.2.1 hn1 h'))
theorem V_astore_n {j : Fin 4} {y : Nat} (hd : decode (am_c M) pc = .ok (.astore_n j, 1)) (hn : (am_nl lv j && Nat.blt j lv.length) = true) (k : am_V x M Po cs sh σ (pc + 1) (lv.set j (some (Zr y))) st) : am_V x M Po cs sh σ pc lv (Zr y :: st) := by
  intro p l e s m args below meth c g X H locs ls hP hz hS hl
  obtain ⟨hx, hb, hret, hml, hown, hts, hK, hlk, hnm, hxs⟩ := id X
  have hn1 := (Bool.and_eq_true_iff.mp hn).1
  have hn2 : (j : Nat) < lv.length := Nat.le_of_ble_eq_true (Bool.and_eq_true_iff.mp hn).2
  exact lv_astore_n hx hb hd rfl (am_L_has hl) (by rw [← hl.2.2.1]; exact hn2) rfl (fun ls' h' => k p l e s m args below meth c g X H locs ls' hP hz hS (am_st1 (v := Zr y) hl.2.2.1 hn1 h'))
theorem V_astore {j : Nat} {y : Nat} (hd : decode (am_c M) pc = .ok (.astore j, 2)) (hn : (am_nl lv j && Nat.blt j lv.length) = true) (k : am_V x M Po cs sh σ (pc + 2) (lv.set j (some (Zr y))) st) : am_V x M Po cs sh σ pc lv (Zr y :: st) := by
  intro p l e s m args below meth c g X H locs ls hP hz hS hl
  obtain ⟨hx, hb, hret, hml, hown, hts, hK, hlk, hnm, hxs⟩ := id X
  have hn1 := (Bool.and_eq_true_iff.mp hn).1
  have hn2 : (j : Nat) < lv.length := Nat.le_of_ble_eq_true (Bool.and_eq_true_iff.mp hn).2
  exact lv_astore hx hb hd (am_L_has hl) (by rw [← hl.2.2.1]; exact hn2) rfl (fun ls' h' => k p l e s m args below meth c g X H locs ls' hP hz hS (am_st1 (v := Zr y) hl.2.2.1 hn1 h'))
theorem V_lstore_n {j : Fin 4} {y : Int} (hd : decode (am_c M) pc = .ok (.lstore_n j, 1)) (hn : (am_nl lv j && Nat.blt (j + 1) lv.length) = true) (k : am_V x M Po cs sh σ (pc + 1) ((lv.set j (some (Zl y))).set (j + 1) none) st) : am_V x M Po cs sh σ pc lv (Zl y :: st) := by
  intro p l e s m args below meth c g X H locs ls hP hz hS hl
  obtain ⟨hx, hb, hret, hml, hown, hts, hK, hlk, hnm, hxs⟩ := id X
  have hn1 := (Bool.and_eq_true_iff.mp hn).1
  have hn2 : (j : Nat) + 1 < lv.length := Nat.le_of_ble_eq_true (Bool.and_eq_true_iff.mp hn).2
  exact lv_lstore_n hx hb hd rfl (am_L_has hl) (by rw [← hl.2.2.1]; exact hn2) rfl (fun ls' h' => k p l e s m args below meth c g X H locs ls' hP hz hS (am_st2 (v := Zl y) hl.2.2.1 hn1 h'))
theorem V_lstore {j : Nat} {y : Int} (hd : decode (am_c M) pc = .ok (.lstore j, 2)) (hn : (am_nl lv j && Nat.blt (j + 1) lv.length) = true) (k : am_V x M Po cs sh σ (pc + 2) ((lv.set j (some (Zl y))).set (j + 1) none) st) : am_V x M Po cs sh σ pc lv (Zl y :: st) := by
  intro p l e s m args below meth c g X H locs ls hP hz hS hl
  obtain ⟨hx, hb, hret, hml, hown, hts, hK, hlk, hnm, hxs⟩ := id X
  have hn1 := (Bool.and_eq_true_iff.mp hn).1
  have hn2 : (j : Nat) + 1 < lv.length := Nat.le_of_ble_eq_true (Bool.and_eq_true_iff.mp hn).2
  exact lv_lstore hx hb hd (am_L_has hl) (by rw [← hl.2.2.1]; exact hn2) rfl (fun ls' h' => k p l e s m args below meth c g X H locs ls' hP hz hS (am_st2 (v := Zl y) hl.2.2.1 hn1 h'))
theorem V_iinc {j : Nat} {n y : Int} (hd : decode (am_c M) pc = .ok (.iinc j n, 3)) (h : lv[j]? = some (some (Zi y))) (hn : am_nl lv j = true) (k : am_V x M Po cs sh σ (pc + 3) (lv.set j (some (Zi (y + n)))) st) : am_V x M Po cs sh σ pc lv st := by
  intro p l e s m args below meth c g X H locs ls hP hz hS hl
  obtain ⟨hx, hb, hret, hml, hown, hts, hK, hlk, hnm, hxs⟩ := id X
  have hj : j < lv.length := (List.getElem?_eq_some_iff.mp h).1
  have hin : (j, am_cv g (Zi y)) ∈ am_lvl g lv := am_lvl_in.mpr ⟨_, h, rfl⟩
  obtain ⟨i9, h9⟩ := List.getElem?_of_mem hin
  exact lv_iinc hx hb hd (am_L_has hl) (k := i9) h9 (v := Int32.ofInt (y + n)) (by rw [Int32.ofInt_add]) (by rw [← hl.2.2.1]; exact hj) rfl (fun ls' h' => k p l e s m args below meth c g X H locs ls' hP hz hS (am_st1 (v := Zi (y + n)) hl.2.2.1 hn h'))
theorem V_iadd {a b : Int} (hd : decode (am_c M) pc = .ok (.iadd, 1)) (k : am_V x M Po cs sh σ (pc + 1) lv (Zi (a + b) :: st)) : am_V x M Po cs sh σ pc lv (Zi b :: Zi a :: st) := by
  intro p l e s m args below meth c g X H locs ls hP hz hS hl
  obtain ⟨hx, hb, hret, hml, hown, hts, hK, hlk, hnm, hxs⟩ := id X
  refine lv_iadd hx hb hd ?_
  have k2 := k p l e s m args below meth c g X H locs ls hP hz hS hl
  rw [List.map_cons, am_cv, Int32.ofInt_add] at k2
  exact k2
theorem V_ladd {a b : Int} (hd : decode (am_c M) pc = .ok (.ladd, 1)) (k : am_V x M Po cs sh σ (pc + 1) lv (Zl (a + b) :: st)) : am_V x M Po cs sh σ pc lv (Zl b :: Zl a :: st) := by
  intro p l e s m args below meth c g X H locs ls hP hz hS hl
  obtain ⟨hx, hb, hret, hml, hown, hts, hK, hlk, hnm, hxs⟩ := id X
  refine lv_ladd hx hb hd ?_
  have k2 := k p l e s m args below meth c g X H locs ls hP hz hS hl
  rw [List.map_cons, am_cv, Int64.ofInt_add] at k2
  exact k2
theorem V_isub {a b : Int} (hd : decode (am_c M) pc = .ok (.isub, 1)) (k : am_V x M Po cs sh σ (pc + 1) lv (Zi (a - b) :: st)) : am_V x M Po cs sh σ pc lv (Zi b :: Zi a :: st) := by
  intro p l e s m args below meth c g X H locs ls hP hz hS hl
  obtain ⟨hx, hb, hret, hml, hown, hts, hK, hlk, hnm, hxs⟩ := id X
  refine lv_isub hx hb hd ?_
  have k2 := k p l e s m args below meth c g X H locs ls hP hz hS hl
  rw [List.map_cons, am_cv, Int32.ofInt_sub] at k2
  exact k2
theorem V_lsub {a b : Int} (hd : decode (am_c M) pc = .ok (.lsub, 1)) (k : am_V x M Po cs sh σ (pc + 1) lv (Zl (a - b) :: st)) : am_V x M Po cs sh σ pc lv (Zl b :: Zl a :: st) := by
  intro p l e s m args below meth c g X H locs ls hP hz hS hl
  obtain ⟨hx, hb, hret, hml, hown, hts, hK, hlk, hnm, hxs⟩ := id X
  refine lv_lsub hx hb hd ?_
  have k2 := k p l e s m args below meth c g X H locs ls hP hz hS hl
  rw [List.map_cons, am_cv, Int64.ofInt_sub] at k2
  exact k2
theorem V_imul {a b : Int} (hd : decode (am_c M) pc = .ok (.imul, 1)) (k : am_V x M Po cs sh σ (pc + 1) lv (Zi (a * b) :: st)) : am_V x M Po cs sh σ pc lv (Zi b :: Zi a :: st) := by
  intro p l e s m args below meth c g X H locs ls hP hz hS hl
  obtain ⟨hx, hb, hret, hml, hown, hts, hK, hlk, hnm, hxs⟩ := id X
  refine lv_imul hx hb hd ?_
  have k2 := k p l e s m args below meth c g X H locs ls hP hz hS hl
  rw [List.map_cons, am_cv, Int32.ofInt_mul] at k2
  exact k2
theorem V_lmul {a b : Int} (hd : decode (am_c M) pc = .ok (.lmul, 1)) (k : am_V x M Po cs sh σ (pc + 1) lv (Zl (a * b) :: st)) : am_V x M Po cs sh σ pc lv (Zl b :: Zl a :: st) := by
  intro p l e s m args below meth c g X H locs ls hP hz hS hl
  obtain ⟨hx, hb, hret, hml, hown, hts, hK, hlk, hnm, hxs⟩ := id X
  refine lv_lmul hx hb hd ?_
  have k2 := k p l e s m args below meth c g X H locs ls hP hz hS hl
  rw [List.map_cons, am_cv, Int64.ofInt_mul] at k2
  exact k2
end AMR
/-! numbers of the machine, seen as ints: rows that say what they are stand later -/
def am_and (a b : Int) : Int := (Int32.ofInt a &&& Int32.ofInt b).toInt
def am_or (a b : Int) : Int := (Int32.ofInt a ||| Int32.ofInt b).toInt
def am_xor (a b : Int) : Int := (Int32.ofInt a ^^^ Int32.ofInt b).toInt
def am_div (a b : Int) : Int := (Int32.ofInt a / Int32.ofInt b).toInt
def am_rem (a b : Int) : Int := (Int32.ofInt a - Int32.ofInt a / Int32.ofInt b * Int32.ofInt b).toInt
def am_shl (a b : Int) : Int := (Int32.ofInt a <<< (Int32.ofInt b &&& 31)).toInt
def am_shr (a b : Int) : Int := (Int32.ofInt a >>> (Int32.ofInt b &&& 31)).toInt
def am_ushr (a b : Int) : Int := ((Int32.ofInt a).toUInt32 >>> ((Int32.ofInt b).toUInt32 &&& Int32.toUInt32 31)).toInt32.toInt
def am_andL (a b : Int) : Int := (Int64.ofInt a &&& Int64.ofInt b).toInt
def am_orL (a b : Int) : Int := (Int64.ofInt a ||| Int64.ofInt b).toInt
def am_xorL (a b : Int) : Int := (Int64.ofInt a ^^^ Int64.ofInt b).toInt
def am_divL (a b : Int) : Int := (Int64.ofInt a / Int64.ofInt b).toInt
def am_remL (a b : Int) : Int := (Int64.ofInt a - Int64.ofInt a / Int64.ofInt b * Int64.ofInt b).toInt
def am_shlL (a b : Int) : Int := (Int64.ofInt a <<< ((Int32.ofInt b).toInt64 &&& 63)).toInt
def am_shrL (a b : Int) : Int := (Int64.ofInt a >>> ((Int32.ofInt b).toInt64 &&& 63)).toInt
def am_i2l (a : Int) : Int := (Int32.ofInt a).toInt64.toInt
def am_l2i (a : Int) : Int := (Int64.ofInt a).toInt32.toInt
def am_cmp (a b : Int) : Int := if b < a then 1 else if a = b then 0 else -1
theorem am_of (x : Int32) : Int32.ofInt x.toInt = x := Int32.ofInt_toInt x
theorem am_ofL (x : Int64) : Int64.ofInt x.toInt = x := Int64.ofInt_toInt x
theorem am_rr32 (x : Int32) : am_r x.toInt := ⟨by have := Int32.le_toInt x; omega, by have := Int32.toInt_lt x; omega⟩
section AMS
variable {x : am_Sc} {M : am_MT} {Po : Option am_AV → am_Sh → am_St → Prop} {cs : Nat × Nat} {sh : am_Sh} {σ : am_St} {pc : Nat} {lv : List (Option am_AV)} {st : List am_AV}
theorem V_iand {a b : Int} (hd : decode (am_c M) pc = .ok (.iand, 1)) (k : am_V x M Po cs sh σ (pc + 1) lv (Zi (am_and a b) :: st)) : am_V x M Po cs sh σ pc lv (Zi b :: Zi a :: st) := by
  intro p l e s m args below meth c g X H locs ls hP hz hS hl
  obtain ⟨hx, hb, hret, hml, hown, hts, hK, hlk, hnm, hxs⟩ := id X
  refine lv_iand hx hb hd ?_
  have k2 := k p l e s m args below meth c g X H locs ls hP hz hS hl
  rw [List.map_cons, am_cv, am_and, am_of] at k2
  exact k2
theorem V_land {a b : Int} (hd : decode (am_c M) pc = .ok (.land, 1)) (k : am_V x M Po cs sh σ (pc + 1) lv (Zl (am_andL a b) :: st)) : am_V x M Po cs sh σ pc lv (Zl b :: Zl a :: st) := by
  intro p l e s m args below meth c g X H locs ls hP hz hS hl
  obtain ⟨hx, hb, hret, hml, hown, hts, hK, hlk, hnm, hxs⟩ := id X
  refine lv_land hx hb hd ?_
  have k2 := k p l e s m args below meth c g X H locs ls hP hz hS hl
  rw [List.map_cons, am_cv, am_andL, am_ofL] at k2
  exact k2
theorem V_ior {a b : Int} (hd : decode (am_c M) pc = .ok (.ior, 1)) (k : am_V x M Po cs sh σ (pc + 1) lv (Zi (am_or a b) :: st)) : am_V x M Po cs sh σ pc lv (Zi b :: Zi a :: st) := by
  intro p l e s m args below meth c g X H locs ls hP hz hS hl
  obtain ⟨hx, hb, hret, hml, hown, hts, hK, hlk, hnm, hxs⟩ := id X
  refine lv_ior hx hb hd ?_
  have k2 := k p l e s m args below meth c g X H locs ls hP hz hS hl
  rw [List.map_cons, am_cv, am_or, am_of] at k2
  exact k2
theorem V_lor {a b : Int} (hd : decode (am_c M) pc = .ok (.lor, 1)) (k : am_V x M Po cs sh σ (pc + 1) lv (Zl (am_orL a b) :: st)) : am_V x M Po cs sh σ pc lv (Zl b :: Zl a :: st) := by
  intro p l e s m args below meth c g X H locs ls hP hz hS hl
  obtain ⟨hx, hb, hret, hml, hown, hts, hK, hlk, hnm, hxs⟩ := id X
  refine lv_lor hx hb hd ?_
  have k2 := k p l e s m args below meth c g X H locs ls hP hz hS hl
  rw [List.map_cons, am_cv, am_orL, am_ofL] at k2
  exact k2
theorem V_ixor {a b : Int} (hd : decode (am_c M) pc = .ok (.ixor, 1)) (k : am_V x M Po cs sh σ (pc + 1) lv (Zi (am_xor a b) :: st)) : am_V x M Po cs sh σ pc lv (Zi b :: Zi a :: st) := by
  intro p l e s m args below meth c g X H locs ls hP hz hS hl
  obtain ⟨hx, hb, hret, hml, hown, hts, hK, hlk, hnm, hxs⟩ := id X
  refine lv_ixor hx hb hd ?_
  have k2 := k p l e s m args below meth c g X H locs ls hP hz hS hl
  rw [List.map_cons, am_cv, am_xor, am_of] at k2
  exact k2
theorem V_lxor {a b : Int} (hd : decode (am_c M) pc = .ok (.lxor, 1)) (k : am_V x M Po cs sh σ (pc + 1) lv (Zl (am_xorL a b) :: st)) : am_V x M Po cs sh σ pc lv (Zl b :: Zl a :: st) := by
  intro p l e s m args below meth c g X H locs ls hP hz hS hl
  obtain ⟨hx, hb, hret, hml, hown, hts, hK, hlk, hnm, hxs⟩ := id X
  refine lv_lxor hx hb hd ?_
  have k2 := k p l e s m args below meth c g X H locs ls hP hz hS hl
  rw [List.map_cons, am_cv, am_xorL, am_ofL] at k2
  exact k2
theorem V_idiv {a b : Int} (hd : decode (am_c M) pc = .ok (.idiv, 1)) (hr : am_r b) (h0 : b ≠ 0) (k : am_V x M Po cs sh σ (pc + 1) lv (Zi (am_div a b) :: st)) : am_V x M Po cs sh σ pc lv (Zi b :: Zi a :: st) := by
  intro p l e s m args below meth c g X H locs ls hP hz hS hl
  obtain ⟨hx, hb, hret, hml, hown, hts, hK, hlk, hnm, hxs⟩ := id X
  refine lv_idiv hx hb hd (fun z => h0 ((am_eq hr (by decide)).mp (z.trans rfl))) ?_
  have k2 := k p l e s m args below meth c g X H locs ls hP hz hS hl
  rw [List.map_cons, am_cv, am_div, am_of] at k2
  exact k2
theorem V_ldiv {a b : Int} (hd : decode (am_c M) pc = .ok (.ldiv, 1)) (hr : am_rl b) (h0 : b ≠ 0) (k : am_V x M Po cs sh σ (pc + 1) lv (Zl (am_divL a b) :: st)) : am_V x M Po cs sh σ pc lv (Zl b :: Zl a :: st) := by
  intro p l e s m args below meth c g X H locs ls hP hz hS hl
  obtain ⟨hx, hb, hret, hml, hown, hts, hK, hlk, hnm, hxs⟩ := id X
  refine lv_ldiv hx hb hd (fun z => h0 ((am_eqL hr (by decide)).mp (z.trans rfl))) ?_
  have k2 := k p l e s m args below meth c g X H locs ls hP hz hS hl
  rw [List.map_cons, am_cv, am_divL, am_ofL] at k2
  exact k2
theorem V_irem {a b : Int} (hd : decode (am_c M) pc = .ok (.irem, 1)) (hr : am_r b) (h0 : b ≠ 0) (k : am_V x M Po cs sh σ (pc + 1) lv (Zi (am_rem a b) :: st)) : am_V x M Po cs sh σ pc lv (Zi b :: Zi a :: st) := by
  intro p l e s m args below meth c g X H locs ls hP hz hS hl
  obtain ⟨hx, hb, hret, hml, hown, hts, hK, hlk, hnm, hxs⟩ := id X
  refine lv_irem hx hb hd (fun z => h0 ((am_eq hr (by decide)).mp (z.trans rfl))) ?_
  have k2 := k p l e s m args below meth c g X H locs ls hP hz hS hl
  rw [List.map_cons, am_cv, am_rem, am_of] at k2
  exact k2
theorem V_lrem {a b : Int} (hd : decode (am_c M) pc = .ok (.lrem, 1)) (hr : am_rl b) (h0 : b ≠ 0) (k : am_V x M Po cs sh σ (pc + 1) lv (Zl (am_remL a b) :: st)) : am_V x M Po cs sh σ pc lv (Zl b :: Zl a :: st) := by
  intro p l e s m args below meth c g X H locs ls hP hz hS hl
  obtain ⟨hx, hb, hret, hml, hown, hts, hK, hlk, hnm, hxs⟩ := id X
  refine lv_lrem hx hb hd (fun z => h0 ((am_eqL hr (by decide)).mp (z.trans rfl))) ?_
  have k2 := k p l e s m args below meth c g X H locs ls hP hz hS hl
  rw [List.map_cons, am_cv, am_remL, am_ofL] at k2
  exact k2
theorem V_ineg {a : Int} (hd : decode (am_c M) pc = .ok (.ineg, 1)) (k : am_V x M Po cs sh σ (pc + 1) lv (Zi (-a) :: st)) : am_V x M Po cs sh σ pc lv (Zi a :: st) := by
  intro p l e s m args below meth c g X H locs ls hP hz hS hl
  obtain ⟨hx, hb, hret, hml, hown, hts, hK, hlk, hnm, hxs⟩ := id X
  refine lv_ineg hx hb hd ?_
  have k2 := k p l e s m args below meth c g X H locs ls hP hz hS hl
  rw [List.map_cons, am_cv, Int32.ofInt_neg] at k2
  exact k2
theorem V_ishl {a b : Int} (hd : decode (am_c M) pc = .ok (.ishl, 1)) (k : am_V x M Po cs sh σ (pc + 1) lv (Zi (am_shl a b) :: st)) : am_V x M Po cs sh σ pc lv (Zi b :: Zi a :: st) := by
  intro p l e s m args below meth c g X H locs ls hP hz hS hl
  obtain ⟨hx, hb, hret, hml, hown, hts, hK, hlk, hnm, hxs⟩ := id X
  refine lv_ishl hx hb hd ?_
  have k2 := k p l e s m args below meth c g X H locs ls hP hz hS hl
  rw [List.map_cons, am_cv, am_shl, am_of] at k2
  exact k2
theorem V_lshl {a b : Int} (hd : decode (am_c M) pc = .ok (.lshl, 1)) (k : am_V x M Po cs sh σ (pc + 1) lv (Zl (am_shlL a b) :: st)) : am_V x M Po cs sh σ pc lv (Zi b :: Zl a :: st) := by
  intro p l e s m args below meth c g X H locs ls hP hz hS hl
  obtain ⟨hx, hb, hret, hml, hown, hts, hK, hlk, hnm, hxs⟩ := id X
  refine lv_lshl hx hb hd (v := Int64.ofInt (am_shlL a b)) (by rw [am_shlL, am_ofL]) ?_
  exact k p l e s m args below meth c g X H locs ls hP hz hS hl
theorem V_ishr {a b : Int} (hd : decode (am_c M) pc = .ok (.ishr, 1)) (k : am_V x M Po cs sh σ (pc + 1) lv (Zi (am_shr a b) :: st)) : am_V x M Po cs sh σ pc lv (Zi b :: Zi a :: st) := by
  intro p l e s m args below meth c g X H locs ls hP hz hS hl
  obtain ⟨hx, hb, hret, hml, hown, hts, hK, hlk, hnm, hxs⟩ := id X
  refine lv_ishr hx hb hd ?_
  have k2 := k p l e s m args below meth c g X H locs ls hP hz hS hl
  rw [List.map_cons, am_cv, am_shr, am_of] at k2
  exact k2
theorem V_lshr {a b : Int} (hd : decode (am_c M) pc = .ok (.lshr, 1)) (k : am_V x M Po cs sh σ (pc + 1) lv (Zl (am_shrL a b) :: st)) : am_V x M Po cs sh σ pc lv (Zi b :: Zl a :: st) := by
  intro p l e s m args below meth c g X H locs ls hP hz hS hl
  obtain ⟨hx, hb, hret, hml, hown, hts, hK, hlk, hnm, hxs⟩ := id X
  refine lv_lshr hx hb hd (v := Int64.ofInt (am_shrL a b)) (by rw [am_shrL, am_ofL]) ?_
  exact k p l e s m args below meth c g X H locs ls hP hz hS hl
theorem V_iushr {a b : Int} (hd : decode (am_c M) pc = .ok (.iushr, 1)) (k : am_V x M Po cs sh σ (pc + 1) lv (Zi (am_ushr a b) :: st)) : am_V x M Po cs sh σ pc lv (Zi b :: Zi a :: st) := by
  intro p l e s m args below meth c g X H locs ls hP hz hS hl
  obtain ⟨hx, hb, hret, hml, hown, hts, hK, hlk, hnm, hxs⟩ := id X
  refine lv_iushr hx hb hd (v := Int32.ofInt (am_ushr a b)) (by rw [am_ushr, am_of]) ?_
  exact k p l e s m args below meth c g X H locs ls hP hz hS hl
theorem V_i2l {a : Int} (hd : decode (am_c M) pc = .ok (.i2l, 1)) (k : am_V x M Po cs sh σ (pc + 1) lv (Zl (am_i2l a) :: st)) : am_V x M Po cs sh σ pc lv (Zi a :: st) := by
  intro p l e s m args below meth c g X H locs ls hP hz hS hl
  obtain ⟨hx, hb, hret, hml, hown, hts, hK, hlk, hnm, hxs⟩ := id X
  refine lv_i2l hx hb hd (v := Int64.ofInt (am_i2l a)) (by rw [am_i2l, am_ofL]) ?_
  exact k p l e s m args below meth c g X H locs ls hP hz hS hl
theorem V_l2i {a : Int} (hd : decode (am_c M) pc = .ok (.l2i, 1)) (k : am_V x M Po cs sh σ (pc + 1) lv (Zi (am_l2i a) :: st)) : am_V x M Po cs sh σ pc lv (Zl a :: st) := by
  intro p l e s m args below meth c g X H locs ls hP hz hS hl
  obtain ⟨hx, hb, hret, hml, hown, hts, hK, hlk, hnm, hxs⟩ := id X
  refine lv_l2i hx hb hd (v := Int32.ofInt (am_l2i a)) (by rw [am_l2i, am_of]) ?_
  exact k p l e s m args below meth c g X H locs ls hP hz hS hl
theorem V_lcmp {a b : Int} (hd : decode (am_c M) pc = .ok (.lcmp, 1)) (ha : am_rl a) (hb2 : am_rl b) (k : am_V x M Po cs sh σ (pc + 1) lv (Zi (am_cmp a b) :: st)) : am_V x M Po cs sh σ pc lv (Zl b :: Zl a :: st) := by
  intro p l e s m args below meth c g X H locs ls hP hz hS hl
  obtain ⟨hx, hb, hret, hml, hown, hts, hK, hlk, hnm, hxs⟩ := id X
  refine W.lcmp hx hb hd ?_
  have k2 := k p l e s m args below meth c g X H locs ls hP hz hS hl
  have e9 : Int32.ofInt (am_cmp a b) = lg_cmp (Int64.ofInt a) (Int64.ofInt b) := by
    unfold am_cmp lg_cmp
    simp only [gt_iff_lt, am_ltL hb2 ha, am_eqL ha hb2]
    split
    · rfl
    · split <;> rfl
  rw [List.map_cons, am_cv, e9] at k2
  exact k2
theorem V_dup {v : am_AV} (hd : decode (am_c M) pc = .ok (.dup, 1)) (k : am_V x M Po cs sh σ (pc + 1) lv (v :: v :: st)) (hc : ∀ g, (am_cv g v).category = 1 := by exact fun _ => rfl) : am_V x M Po cs sh σ pc lv (v :: st) := by
  intro p l e s m args below meth c g X H locs ls hP hz hS hl
  obtain ⟨hx, hb, hret, hml, hown, hts, hK, hlk, hnm, hxs⟩ := id X
  exact lv_dup hx hb hd (hc g) (k p l e s m args below meth c g X H locs ls hP hz hS hl)
theorem V_dup2 {u v : am_AV} (hd : decode (am_c M) pc = .ok (.dup2, 1)) (k : am_V x M Po cs sh σ (pc + 1) lv (u :: v :: u :: v :: st)) (hu : ∀ g, (am_cv g u).category = 1 := by exact fun _ => rfl) (hv : ∀ g, (am_cv g v).category = 1 := by exact fun _ => rfl) : am_V x M Po cs sh σ pc lv (u :: v :: st) := by
  intro p l e s m args below meth c g X H locs ls hP hz hS hl
  obtain ⟨hx, hb, hret, hml, hown, hts, hK, hlk, hnm, hxs⟩ := id X
  exact lv_dup2_11 hx hb hd (hu g) (hv g) (k p l e s m args below meth c g X H locs ls hP hz hS hl)
theorem V_pop {v : am_AV} (hd : decode (am_c M) pc = .ok (.pop, 1)) (k : am_V x M Po cs sh σ (pc + 1) lv st) (hc : ∀ g, (am_cv g v).category = 1 := by exact fun _ => rfl) : am_V x M Po cs sh σ pc lv (v :: st) := by
  intro p l e s m args below meth c g X H locs ls hP hz hS hl
  obtain ⟨hx, hb, hret, hml, hown, hts, hK, hlk, hnm, hxs⟩ := id X
  exact lv_pop hx hb hd (hc g) (k p l e s m args below meth c g X H locs ls hP hz hS hl)
theorem V_goto {off : Int} (tgt : Nat) (hd : decode (am_c M) pc = .ok (.goto off, 3)) (k : am_V x M Po cs sh σ tgt lv st) (ht : (pc : Int) + off = (tgt : Int) := by decide) : am_V x M Po cs sh σ pc lv st := by
  intro p l e s m args below meth c g X H locs ls hP hz hS hl
  obtain ⟨hx, hb, hret, hml, hown, hts, hK, hlk, hnm, hxs⟩ := id X
  exact lv_goto hx hb hd ht (k p l e s m args below meth c g X H locs ls hP hz hS hl)
theorem V_icmp_eq {a b off : Int} (tgt : Nat) (hd : decode (am_c M) pc = .ok (.if_icmp .eq off, 3)) (ha : am_r a) (hb2 : am_r b) (kt : a = b → am_V x M Po cs sh σ tgt lv st) (kf : ¬ a = b → am_V x M Po cs sh σ (pc + 3) lv st) (ht : (pc : Int) + off = (tgt : Int) := by decide) : am_V x M Po cs sh σ pc lv (Zi b :: Zi a :: st) := by
  intro p l e s m args below meth c g X H locs ls hP hz hS hl
  obtain ⟨hx, hb, hret, hml, hown, hts, hK, hlk, hnm, hxs⟩ := id X
  exact lv_icmp_eq hx hb hd ht (fun h9 => kt ((am_eq ha hb2).mp h9) p l e s m args below meth c g X H locs ls hP hz hS hl) (fun h9 => kf (fun z => h9 ((am_eq ha hb2).mpr z)) p l e s m args below meth c g X H locs ls hP hz hS hl)
theorem V_if_eq {a off : Int} (tgt : Nat) (hd : decode (am_c M) pc = .ok (.ifCond .eq off, 3)) (ha : am_r a) (kt : a = 0 → am_V x M Po cs sh σ tgt lv st) (kf : ¬ a = 0 → am_V x M Po cs sh σ (pc + 3) lv st) (ht : (pc : Int) + off = (tgt : Int) := by decide) : am_V x M Po cs sh σ pc lv (Zi a :: st) := by
  intro p l e s m args below meth c g X H locs ls hP hz hS hl
  obtain ⟨hx, hb, hret, hml, hown, hts, hK, hlk, hnm, hxs⟩ := id X
  exact lv_if_eq hx hb hd ht (fun h9 => kt ((am_eq ha (by decide : am_r 0)).mp h9) p l e s m args below meth c g X H locs ls hP hz hS hl) (fun h9 => kf (fun z => h9 ((am_eq ha (by decide : am_r 0)).mpr z)) p l e s m args below meth c g X H locs ls hP hz hS hl)
theorem V_icmp_ne {a b off : Int} (tgt : Nat) (hd : decode (am_c M) pc = .ok (.if_icmp .ne off, 3)) (ha : am_r a) (hb2 : am_r b) (kt : ¬ a = b → am_V x M Po cs sh σ tgt lv st) (kf : a = b → am_V x M Po cs sh σ (pc + 3) lv st) (ht : (pc : Int) + off = (tgt : Int) := by decide) : am_V x M Po cs sh σ pc lv (Zi b :: Zi a :: st) := by
  intro p l e s m args below meth c g X H locs ls hP hz hS hl
  obtain ⟨hx, hb, hret, hml, hown, hts, hK, hlk, hnm, hxs⟩ := id X
  exact lv_icmp_ne hx hb hd ht (fun h9 => kt (fun z => h9 ((am_eq ha hb2).mpr z)) p l e s m args below meth c g X H locs ls hP hz hS hl) (fun h9 => kf ((am_eq ha hb2).mp h9) p l e s m args below meth c g X H locs ls hP hz hS hl)
theorem V_if_ne {a off : Int} (tgt : Nat) (hd : decode (am_c M) pc = .ok (.ifCond .ne off, 3)) (ha : am_r a) (kt : ¬ a = 0 → am_V x M Po cs sh σ tgt lv st) (kf : a = 0 → am_V x M Po cs sh σ (pc + 3) lv st) (ht : (pc : Int) + off = (tgt : Int) := by decide) : am_V x M Po cs sh σ pc lv (Zi a :: st) := by
  intro p l e s m args below meth c g X H locs ls hP hz hS hl
  obtain ⟨hx, hb, hret, hml, hown, hts, hK, hlk, hnm, hxs⟩ := id X
  exact lv_if_ne hx hb hd ht (fun h9 => kt (fun z => h9 ((am_eq ha (by decide : am_r 0)).mpr z)) p l e s m args below meth c g X H locs ls hP hz hS hl) (fun h9 => kf ((am_eq ha (by decide : am_r 0)).mp h9) p l e s m args below meth c g X H locs ls hP hz hS hl)
theorem V_icmp_lt {a b off : Int} (tgt : Nat) (hd : decode (am_c M) pc = .ok (.if_icmp .lt off, 3)) (ha : am_r a) (hb2 : am_r b) (kt : a < b → am_V x M Po cs sh σ tgt lv st) (kf : ¬ a < b → am_V x M Po cs sh σ (pc + 3) lv st) (ht : (pc : Int) + off = (tgt : Int) := by decide) : am_V x M Po cs sh σ pc lv (Zi b :: Zi a :: st) := by
  intro p l e s m args below meth c g X H locs ls hP hz hS hl
  obtain ⟨hx, hb, hret, hml, hown, hts, hK, hlk, hnm, hxs⟩ := id X
  exact lv_icmp_lt hx hb hd ht (fun h9 => kt ((am_lt ha hb2).mp h9) p l e s m args below meth c g X H locs ls hP hz hS hl) (fun h9 => kf (fun z => h9 ((am_lt ha hb2).mpr z)) p l e s m args below meth c g X H locs ls hP hz hS hl)
theorem V_if_lt {a off : Int} (tgt : Nat) (hd : decode (am_c M) pc = .ok (.ifCond .lt off, 3)) (ha : am_r a) (kt : a < 0 → am_V x M Po cs sh σ tgt lv st) (kf : ¬ a < 0 → am_V x M Po cs sh σ (pc + 3) lv st) (ht : (pc : Int) + off = (tgt : Int) := by decide) : am_V x M Po cs sh σ pc lv (Zi a :: st) := by
  intro p l e s m args below meth c g X H locs ls hP hz hS hl
  obtain ⟨hx, hb, hret, hml, hown, hts, hK, hlk, hnm, hxs⟩ := id X
  exact lv_if_lt hx hb hd ht (fun h9 => kt ((am_lt ha (by decide : am_r 0)).mp h9) p l e s m args below meth c g X H locs ls hP hz hS hl) (fun h9 => kf (fun z => h9 ((am_lt ha (by decide : am_r 0)).mpr z)) p l e s m args below meth c g X H locs ls hP hz hS hl)
theorem V_icmp_ge {a b off : Int} (tgt : Nat) (hd : decode (am_c M) pc = .ok (.if_icmp .ge off, 3)) (ha : am_r a) (hb2 : am_r b) (kt : b ≤ a → am_V x M Po cs sh σ tgt lv st) (kf : ¬ b ≤ a → am_V x M Po cs sh σ (pc + 3) lv st) (ht : (pc : Int) + off = (tgt : Int) := by decide) : am_V x M Po cs sh σ pc lv (Zi b :: Zi a :: st) := by
  intro p l e s m args below meth c g X H locs ls hP hz hS hl
  obtain ⟨hx, hb, hret, hml, hown, hts, hK, hlk, hnm, hxs⟩ := id X
  exact lv_icmp_ge hx hb hd ht (fun h9 => kt ((am_le hb2 ha).mp h9) p l e s m args below meth c g X H locs ls hP hz hS hl) (fun h9 => kf (fun z => h9 ((am_le hb2 ha).mpr z)) p l e s m args below meth c g X H locs ls hP hz hS hl)
theorem V_if_ge {a off : Int} (tgt : Nat) (hd : decode (am_c M) pc = .ok (.ifCond .ge off, 3)) (ha : am_r a) (kt : 0 ≤ a → am_V x M Po cs sh σ tgt lv st) (kf : ¬ 0 ≤ a → am_V x M Po cs sh σ (pc + 3) lv st) (ht : (pc : Int) + off = (tgt : Int) := by decide) : am_V x M Po cs sh σ pc lv (Zi a :: st) := by
  intro p l e s m args below meth c g X H locs ls hP hz hS hl
  obtain ⟨hx, hb, hret, hml, hown, hts, hK, hlk, hnm, hxs⟩ := id X
  exact lv_if_ge hx hb hd ht (fun h9 => kt ((am_le (by decide : am_r 0) ha).mp h9) p l e s m args below meth c g X H locs ls hP hz hS hl) (fun h9 => kf (fun z => h9 ((am_le (by decide : am_r 0) ha).mpr z)) p l e s m args below meth c g X H locs ls hP hz hS hl)
theorem V_icmp_gt {a b off : Int} (tgt : Nat) (hd : decode (am_c M) pc = .ok (.if_icmp .gt off, 3)) (ha : am_r a) (hb2 : am_r b) (kt : b < a → am_V x M Po cs sh σ tgt lv st) (kf : ¬ b < a → am_V x M Po cs sh σ (pc + 3) lv st) (ht : (pc : Int) + off = (tgt : Int) := by decide) : am_V x M Po cs sh σ pc lv (Zi b :: Zi a :: st) := by
  intro p l e s m args below meth c g X H locs ls hP hz hS hl
  obtain ⟨hx, hb, hret, hml, hown, hts, hK, hlk, hnm, hxs⟩ := id X
  exact lv_icmp_gt hx hb hd ht (fun h9 => kt ((am_lt hb2 ha).mp h9) p l e s m args below meth c g X H locs ls hP hz hS hl) (fun h9 => kf (fun z => h9 ((am_lt hb2 ha).mpr z)) p l e s m args below meth c g X H locs ls hP hz hS hl)
theorem V_if_gt {a off : Int} (tgt : Nat) (hd : decode (am_c M) pc = .ok (.ifCond .gt off, 3)) (ha : am_r a) (kt : 0 < a → am_V x M Po cs sh σ tgt lv st) (kf : ¬ 0 < a → am_V x M Po cs sh σ (pc + 3) lv st) (ht : (pc : Int) + off = (tgt : Int) := by decide) : am_V x M Po cs sh σ pc lv (Zi a :: st) := by
  intro p l e s m args below meth c g X H locs ls hP hz hS hl
  obtain ⟨hx, hb, hret, hml, hown, hts, hK, hlk, hnm, hxs⟩ := id X
  exact lv_if_gt hx hb hd ht (fun h9 => kt ((am_lt (by decide : am_r 0) ha).mp h9) p l e s m args below meth c g X H locs ls hP hz hS hl) (fun h9 => kf (fun z => h9 ((am_lt (by decide : am_r 0) ha).mpr z)) p l e s m args below meth c g X H locs ls hP hz hS hl)
theorem V_icmp_le {a b off : Int} (tgt : Nat) (hd : decode (am_c M) pc = .ok (.if_icmp .le off, 3)) (ha : am_r a) (hb2 : am_r b) (kt : a ≤ b → am_V x M Po cs sh σ tgt lv st) (kf : ¬ a ≤ b → am_V x M Po cs sh σ (pc + 3) lv st) (ht : (pc : Int) + off = (tgt : Int) := by decide) : am_V x M Po cs sh σ pc lv (Zi b :: Zi a :: st) := by
  intro p l e s m args below meth c g X H locs ls hP hz hS hl
  obtain ⟨hx, hb, hret, hml, hown, hts, hK, hlk, hnm, hxs⟩ := id X
  exact lv_icmp_le hx hb hd ht (fun h9 => kt ((am_le ha hb2).mp h9) p l e s m args below meth c g X H locs ls hP hz hS hl) (fun h9 => kf (fun z => h9 ((am_le ha hb2).mpr z)) p l e s m args below meth c g X H locs ls hP hz hS hl)
theorem V_if_le {a off : Int} (tgt : Nat) (hd : decode (am_c M) pc = .ok (.ifCond .le off, 3)) (ha : am_r a) (kt : a ≤ 0 → am_V x M Po cs sh σ tgt lv st) (kf : ¬ a ≤ 0 → am_V x M Po cs sh σ (pc + 3) lv st) (ht : (pc : Int) + off = (tgt : Int) := by decide) : am_V x M Po cs sh σ pc lv (Zi a :: st) := by
  intro p l e s m args below meth c g X H locs ls hP hz hS hl
  obtain ⟨hx, hb, hret, hml, hown, hts, hK, hlk, hnm, hxs⟩ := id X
  exact lv_if_le hx hb hd ht (fun h9 => kt ((am_le ha (by decide : am_r 0)).mp h9) p l e s m args below meth c g X H locs ls hP hz hS hl) (fun h9 => kf (fun z => h9 ((am_le ha (by decide : am_r 0)).mpr z)) p l e s m args below meth c g X H locs ls hP hz hS hl)
theorem V_tabOut {a dflt lo hi : Int} {offs : Array Int} {len : Nat} (tgt : Nat) (hd : decode (am_c M) pc = .ok (.tableswitch dflt lo hi offs, len)) (ha : am_r a) (h : a < lo ∨ hi < a) (k : am_V x M Po cs sh σ tgt lv st) (ht : (pc : Int) + dflt = (tgt : Int) := by decide) : am_V x M Po cs sh σ pc lv (Zi a :: st) := by
  intro p l e s m args below meth c g X H locs ls hP hz hS hl
  obtain ⟨hx, hb, hret, hml, hown, hts, hK, hlk, hnm, hxs⟩ := id X
  exact lv_tableOut hx hb hd (by rw [am_toInt ha]; exact h) ht (k p l e s m args below meth c g X H locs ls hP hz hS hl)
theorem V_tabIn {a dflt lo hi off : Int} {offs : Array Int} {len : Nat} (tgt : Nat) (hd : decode (am_c M) pc = .ok (.tableswitch dflt lo hi offs, len)) (ha : am_r a) (h1 : ¬ a < lo) (h2 : ¬ hi < a) (ho : offs[(a - lo).toNat]? = some off) (k : am_V x M Po cs sh σ tgt lv st) (ht : (pc : Int) + off = (tgt : Int) := by decide) : am_V x M Po cs sh σ pc lv (Zi a :: st) := by
  intro p l e s m args below meth c g X H locs ls hP hz hS hl
  obtain ⟨hx, hb, hret, hml, hown, hts, hK, hlk, hnm, hxs⟩ := id X
  exact lv_tableIn hx hb hd (by rw [am_toInt ha]; exact h1) (by rw [am_toInt ha]; exact h2) (by rw [am_toInt ha]; exact ho) ht (k p l e s m args below meth c g X H locs ls hP hz hS hl)
end AMS
end
section
/-! ===== the rules of the heap ===== -/
/-- an entry of a class's file that names a field of class ci, place j, of tag t -/
def am_FL (own : String) (idx ci j t : Nat) : Prop := ∃ (C : String) (T : u_T) (N : Nat), am_cl[ci]? = some (C, T, N) ∧ j < N ∧ Cond.fieldLink own idx (T j).1 (T j).2.1 (T j).2.2.1 ∈ am_tbl ∧ (am_TG.getD ci [])[j]? = some t
theorem am_ce_obj (g : am_G) (σ : am_St) (k ci n : Nat) (rs : List (Option Nat)) (h : ci < 12) : am_ce g σ k (ci, n, rs) = .inr (ci, (am_TG.getD ci []).mapIdx fun j t => am_fv g σ k rs t j) := by
  simp [am_ce, h]
theorem am_lift {g : am_G} {sh : am_Sh} {k : Nat} {q : Nat × Nat × List (Option Nat)} (h : sh[k]? = some q) (hl : sh.length ≤ 1000000) : am_ad g k = am_n0 g + k := by
  have := (List.getElem?_eq_some_iff.mp h).1
  unfold am_ad
  rw [if_pos (by omega)]
section AMH
variable {x : am_Sc} {M : am_MT} {Po : Option am_AV → am_Sh → am_St → Prop} {cs : Nat × Nat} {sh : am_Sh} {σ : am_St} {pc : Nat} {lv : List (Option am_AV)} {st : List am_AV}
theorem am_getf {idx ci j t k n : Nat} {rs : List (Option Nat)} {v : am_AV} (hd : decode (am_c M) pc = .ok (.getfield idx, 3)) (hf : am_FL M.1.cls idx ci j t) (hq : sh[k]? = some (ci, n, rs)) (hlen : sh.length ≤ 1000000)
    (hv : ∀ g, am_fv g σ k rs t j = am_cv g v) (kk : am_V x M Po cs sh σ (pc + 3) lv (v :: st)) : am_V x M Po cs sh σ pc lv (Zr k :: st) := by
  intro p l e s m args below meth c g X H locs ls hP hz hS hl
  obtain ⟨hx, hb, hret, hml, hown, hts, hK, hlk, hnm, hxs⟩ := id X
  obtain ⟨C, T, N, h1, h2, h3, h4⟩ := hf
  obtain ⟨w1, w2, w3, w4, w5⟩ := am_cls h1
  have he := am_ws_at (g := g) (σ := σ) hq
  rw [am_ce_obj g σ k ci n rs w5] at he
  rw [List.map_cons]
  show W _ _ _ _ _ _ _ _ _ _ _ _ _ _ _ (F0 m pc ls (.ref (am_ad g k) :: _))
  rw [am_lift hq hlen]
  refine va_get (ref := (T j).1) hx hb hts w1 hown hK.1 hP k he h1 j h2 (hts _ h3) (fun _ h9 => h9) (v := am_cv g v) ?_ hd (kk p l e s m args below meth c g X H locs ls hP hz hS hl)
  rw [List.getElem?_mapIdx, h4, Option.map_some, hv g]
theorem V_geti {idx ci j k n : Nat} {rs : List (Option Nat)} (hd : decode (am_c M) pc = .ok (.getfield idx, 3)) (hf : am_FL M.1.cls idx ci j 0) (hq : sh[k]? = some (ci, n, rs)) (hlen : Nat.ble sh.length 1000000 = true)
    (kk : am_V x M Po cs sh σ (pc + 3) lv (Zi (σ.1 k j) :: st)) : am_V x M Po cs sh σ pc lv (Zr k :: st) := am_getf hd hf hq (Nat.le_of_ble_eq_true hlen) (fun g => rfl) kk
theorem V_getl {idx ci j k n : Nat} {rs : List (Option Nat)} (hd : decode (am_c M) pc = .ok (.getfield idx, 3)) (hf : am_FL M.1.cls idx ci j 1) (hq : sh[k]? = some (ci, n, rs)) (hlen : Nat.ble sh.length 1000000 = true)
    (kk : am_V x M Po cs sh σ (pc + 3) lv (Zl (σ.2 k j) :: st)) : am_V x M Po cs sh σ pc lv (Zr k :: st) := am_getf hd hf hq (Nat.le_of_ble_eq_true hlen) (fun g => rfl) kk
theorem V_geta {idx ci j k n r : Nat} {rs : List (Option Nat)} (hd : decode (am_c M) pc = .ok (.getfield idx, 3)) (hf : am_FL M.1.cls idx ci j 2) (hq : sh[k]? = some (ci, n, rs)) (hlen : Nat.ble sh.length 1000000 = true) (hr : rs.getD j none = some r)
    (kk : am_V x M Po cs sh σ (pc + 3) lv (Zr r :: st)) : am_V x M Po cs sh σ pc lv (Zr k :: st) := am_getf hd hf hq (Nat.le_of_ble_eq_true hlen) (fun g => by unfold am_fv; rw [hr]; rfl) kk
/-- a store into a field: what the cells are then -/
theorem am_setf {g : am_G} {σ' : am_St} {k j ci n t : Nat} {rs : List (Option Nat)} {v : Value} (h : sh[k]? = some (ci, n, rs)) (hci : ci < 12) (ht : (am_TG.getD ci [])[j]? = some t)
    (h1 : ∀ k', k' ≠ k → σ'.1 k' = σ.1 k' ∧ σ'.2 k' = σ.2 k') (h2 : ∀ t' j', j' ≠ j → am_fv g σ' k rs t' j' = am_fv g σ k rs t' j') (h3 : am_fv g σ' k rs t j = v) :
    (am_ws g sh σ).set k (am_n0 g + k, .inr (ci, ((am_TG.getD ci []).mapIdx fun j t => am_fv g σ k rs t j).set j v)) = am_ws g sh σ' := by
  rw [← am_ws_set (σ' := σ') h (fun k' q' hk hq => am_ce_o (h1 k' hk).1 (h1 k' hk).2 q'), am_ce_obj g σ' k ci n rs hci]
  congr 4
  apply List.ext_getElem?
  intro i
  rw [List.getElem?_set]
  by_cases e : j = i
  · subst e
    have hl := (List.getElem?_eq_some_iff.mp ht).1
    rw [if_pos rfl, if_pos (by simpa using hl), List.getElem?_mapIdx, ht, Option.map_some, h3]
  · rw [if_neg e, List.getElem?_mapIdx, List.getElem?_mapIdx]
    cases (am_TG.getD ci [])[i]? with
    | none => rfl
    | some t' => rw [Option.map_some, Option.map_some, h2 t' i (fun z => e z.symm)]
theorem am_putf {idx ci j t k n : Nat} {rs : List (Option Nat)} {v : am_AV} {σ' : am_St} (hd : decode (am_c M) pc = .ok (.putfield idx, 3)) (hf : am_FL M.1.cls idx ci j t) (hfin : ∀ C T N, am_cl[ci]? = some (C, T, N) → (T j).2.2.2 = false) (hq : sh[k]? = some (ci, n, rs)) (hlen : sh.length ≤ 1000000)
    (hn : ∀ g, narrow (am_Y ci j) (am_cv g v) = am_cv g v) (hfit : ∀ g, fits (am_Y ci j) (am_cv g v) = true)
    (h1 : ∀ k', k' ≠ k → σ'.1 k' = σ.1 k' ∧ σ'.2 k' = σ.2 k') (h2 : ∀ g t' j', j' ≠ j → am_fv g σ' k rs t' j' = am_fv g σ k rs t' j') (h3 : ∀ g, am_fv g σ' k rs t j = am_cv g v)
    (kk : am_V x M Po cs sh σ' (pc + 3) lv st) : am_V x M Po cs sh σ pc lv (v :: Zr k :: st) := by
  intro p l e s m args below meth c g X H locs ls hP hz hS hl
  obtain ⟨hx, hb, hret, hml, hown, hts, hK, hlk, hnm, hxs⟩ := id X
  obtain ⟨C, T, N, g1, g2, g3, g4⟩ := hf
  obtain ⟨w1, w2, w3, w4, w5⟩ := am_cls g1
  have he := am_ws_at (g := g) (σ := σ) hq
  rw [am_ce_obj g σ k ci n rs w5] at he
  rw [List.map_cons, List.map_cons]
  show W _ _ _ _ _ _ _ _ _ _ _ _ _ _ _ (F0 m pc ls (am_cv g v :: .ref (am_ad g k) :: _))
  rw [am_lift hq hlen]
  refine va_put (ref := (T j).1) (v := am_cv g v) (ty := am_Y ci j) hx hb hts w1 (am_Y ci) w2 w3 hown hK.1 hP (am_ws_D g sh σ) hS k he g1 j g2 (hts _ g3) (fun _ h9 => h9) (hfin C T N g1) (w2 j g2) (hn g) (hfit g) (by rw [List.length_mapIdx, w4]; exact g2) hd (fun H1 locs1 hP1 hD1 hS1 => ?_)
  rw [am_setf hq w5 g4 h1 (h2 g) (h3 g)] at hP1
  exact kk p l e s m args below meth c g X H1 locs1 ls hP1 hz hS1 hl
theorem am_fvu (g : am_G) (σ : am_St) (k j : Nat) (rs : List (Option Nat)) (v : Int) (t' j' : Nat) (h : j' ≠ j) : am_fv g (am_up σ.1 k j v, σ.2) k rs t' j' = am_fv g σ k rs t' j' := by
  simp [am_fv, am_up, h]
theorem am_fvuL (g : am_G) (σ : am_St) (k j : Nat) (rs : List (Option Nat)) (v : Int) (t' j' : Nat) (h : j' ≠ j) : am_fv g (σ.1, am_up σ.2 k j v) k rs t' j' = am_fv g σ k rs t' j' := by
  simp [am_fv, am_up, h]
/-- an entry for a field that may be written anywhere: it isn't final -/
def am_FW (own : String) (idx ci j t : Nat) (ty : FieldType) : Prop := am_FL own idx ci j t ∧ (∀ C T N, am_cl[ci]? = some (C, T, N) → (T j).2.2.2 = false) ∧ am_Y ci j = ty
theorem V_puti {idx ci j k n : Nat} {rs : List (Option Nat)} {v : Int} (hd : decode (am_c M) pc = .ok (.putfield idx, 3)) (hf : am_FW M.1.cls idx ci j 0 .int) (hq : sh[k]? = some (ci, n, rs)) (hlen : Nat.ble sh.length 1000000 = true)
    (kk : am_V x M Po cs sh (am_up σ.1 k j v, σ.2) (pc + 3) lv st) : am_V x M Po cs sh σ pc lv (Zi v :: Zr k :: st) :=
  am_putf (σ' := (am_up σ.1 k j v, σ.2)) hd hf.1 hf.2.1 hq (Nat.le_of_ble_eq_true hlen) (fun g => by rw [hf.2.2]; rfl) (fun g => by rw [hf.2.2]; rfl) (fun k' h => ⟨am_up_o h, rfl⟩) (fun g t' j' h => am_fvu g σ k j rs v t' j' h) (fun g => by simp [am_fv, am_up, am_cv]) kk
theorem V_putz {idx ci j k n : Nat} {rs : List (Option Nat)} {v : Int} (hd : decode (am_c M) pc = .ok (.putfield idx, 3)) (hf : am_FW M.1.cls idx ci j 0 .boolean) (hq : sh[k]? = some (ci, n, rs)) (hlen : Nat.ble sh.length 1000000 = true) (hv : v = 0 ∨ v = 1)
    (kk : am_V x M Po cs sh (am_up σ.1 k j v, σ.2) (pc + 3) lv st) : am_V x M Po cs sh σ pc lv (Zi v :: Zr k :: st) :=
  am_putf (σ' := (am_up σ.1 k j v, σ.2)) hd hf.1 hf.2.1 hq (Nat.le_of_ble_eq_true hlen) (fun g => by rw [hf.2.2]; rcases hv with rfl | rfl <;> rfl) (fun g => by rw [hf.2.2]; rcases hv with rfl | rfl <;> rfl) (fun k' h => ⟨am_up_o h, rfl⟩) (fun g t' j' h => am_fvu g σ k j rs v t' j' h) (fun g => by simp [am_fv, am_up, am_cv]) kk
theorem V_putl {idx ci j k n : Nat} {rs : List (Option Nat)} {v : Int} (hd : decode (am_c M) pc = .ok (.putfield idx, 3)) (hf : am_FW M.1.cls idx ci j 1 .long) (hq : sh[k]? = some (ci, n, rs)) (hlen : Nat.ble sh.length 1000000 = true)
    (kk : am_V x M Po cs sh (σ.1, am_up σ.2 k j v) (pc + 3) lv st) : am_V x M Po cs sh σ pc lv (Zl v :: Zr k :: st) :=
  am_putf (σ' := (σ.1, am_up σ.2 k j v)) hd hf.1 hf.2.1 hq (Nat.le_of_ble_eq_true hlen) (fun g => by rw [hf.2.2]; rfl) (fun g => by rw [hf.2.2]; rfl) (fun k' h => ⟨rfl, am_up_o h⟩) (fun g t' j' h => am_fvuL g σ k j rs v t' j' h) (fun g => by simp [am_fv, am_up, am_cv]) kk
/-! arrays: the index is a number below the length -/
theorem am_ix {i : Nat} (h : i < 2147483648) : (Int32.ofInt (i : Int)).toNatClampNeg = i := by
  show (Int32.ofInt (i : Int)).toInt.toNat = i
  rw [am_toInt ⟨by omega, by omega⟩]
  omega
theorem am_inb {i n : Nat} (h : i < n) (hn : n < 2147483648) : vp_in (Int32.ofInt (i : Int)) n := by
  unfold vp_in
  rw [am_ix (by omega)]
  rintro (h1 | h1)
  · rw [show (0 : Int32) = Int32.ofInt 0 from rfl, am_lt ⟨by omega, by omega⟩ (by decide)] at h1
    omega
  · omega
/-- an array of ints or booleans, its kind and its length -/
def am_AR (sh : am_Sh) (k n : Nat) : Prop := ∃ rs, sh[k]? = some (12, n, rs)
theorem V_iald {k n i : Nat} {z : Int} {rs : List (Option Nat)} (hd : decode (am_c M) pc = .ok (.iaload, 1)) (hq : sh[k]? = some (12, n, rs)) (hlen : (Nat.ble sh.length 1000000 && Nat.blt n 2147483648) = true) (hz : z = (i : Int)) (hi : i < n)
    (kk : am_V x M Po cs sh σ (pc + 1) lv (Zi (σ.1 k i) :: st)) : am_V x M Po cs sh σ pc lv (Zi z :: Zr k :: st) := by
  subst hz
  have hl1 := Nat.le_of_ble_eq_true (Bool.and_eq_true_iff.mp hlen).1
  have hl2 : n < 2147483648 := Nat.le_of_ble_eq_true (Bool.and_eq_true_iff.mp hlen).2
  intro p l e s m args below meth c g X H locs ls hP hz hS hl
  obtain ⟨hx, hb, hret, hml, hown, hts, hK, hlk, hnm, hxs⟩ := id X
  have he : (am_ws g sh σ)[k]? = some (am_n0 g + k, .inl (am_cy g 0, n, .inl (fun j => Int32.ofInt (σ.1 k j)))) := am_ws_at hq
  rw [List.map_cons, List.map_cons]
  show W _ _ _ _ _ _ _ _ _ _ _ _ _ _ _ (F0 m pc ls (.int (Int32.ofInt (i : Int)) :: .ref (am_ad g k) :: _))
  rw [am_lift hq hl1]
  refine va_iald hx hb hK.1 hP k 0 he rfl (am_inb hi hl2) hd ?_
  rw [am_ix (by omega)]
  exact kk p l e s m args below meth c g X H locs ls hP hz hS hl
theorem V_zald {k n i : Nat} {z : Int} {rs : List (Option Nat)} (hd : decode (am_c M) pc = .ok (.baload, 1)) (hq : sh[k]? = some (14, n, rs)) (hlen : (Nat.ble sh.length 1000000 && Nat.blt n 2147483648) = true) (hz : z = (i : Int)) (hi : i < n)
    (kk : am_V x M Po cs sh σ (pc + 1) lv (Zi (σ.1 k i) :: st)) : am_V x M Po cs sh σ pc lv (Zi z :: Zr k :: st) := by
  subst hz
  have hl1 := Nat.le_of_ble_eq_true (Bool.and_eq_true_iff.mp hlen).1
  have hl2 : n < 2147483648 := Nat.le_of_ble_eq_true (Bool.and_eq_true_iff.mp hlen).2
  intro p l e s m args below meth c g X H locs ls hP hz hS hl
  obtain ⟨hx, hb, hret, hml, hown, hts, hK, hlk, hnm, hxs⟩ := id X
  have he : (am_ws g sh σ)[k]? = some (am_n0 g + k, .inl (am_cy g 2, n, .inl (fun j => Int32.ofInt (σ.1 k j)))) := am_ws_at hq
  rw [List.map_cons, List.map_cons]
  show W _ _ _ _ _ _ _ _ _ _ _ _ _ _ _ (F0 m pc ls (.int (Int32.ofInt (i : Int)) :: .ref (am_ad g k) :: _))
  rw [am_lift hq hl1]
  refine va_zald hx hb hK.1 hP k 2 he rfl (am_inb hi hl2) hd ?_
  rw [am_ix (by omega)]
  exact kk p l e s m args below meth c g X H locs ls hP hz hS hl
theorem V_lald {k n i : Nat} {z : Int} {rs : List (Option Nat)} (hd : decode (am_c M) pc = .ok (.laload, 1)) (hq : sh[k]? = some (13, n, rs)) (hlen : (Nat.ble sh.length 1000000 && Nat.blt n 2147483648) = true) (hz : z = (i : Int)) (hi : i < n)
    (kk : am_V x M Po cs sh σ (pc + 1) lv (Zl (σ.2 k i) :: st)) : am_V x M Po cs sh σ pc lv (Zi z :: Zr k :: st) := by
  subst hz
  have hl1 := Nat.le_of_ble_eq_true (Bool.and_eq_true_iff.mp hlen).1
  have hl2 : n < 2147483648 := Nat.le_of_ble_eq_true (Bool.and_eq_true_iff.mp hlen).2
  intro p l e s m args below meth c g X H locs ls hP hz hS hl
  obtain ⟨hx, hb, hret, hml, hown, hts, hK, hlk, hnm, hxs⟩ := id X
  have he : (am_ws g sh σ)[k]? = some (am_n0 g + k, .inl (am_cy g 1, n, .inr (.inl (fun j => Int64.ofInt (σ.2 k j))))) := am_ws_at hq
  rw [List.map_cons, List.map_cons]
  show W _ _ _ _ _ _ _ _ _ _ _ _ _ _ _ (F0 m pc ls (.int (Int32.ofInt (i : Int)) :: .ref (am_ad g k) :: _))
  rw [am_lift hq hl1]
  refine va_lald hx hb hK.1 hP k 1 he rfl (am_inb hi hl2) hd ?_
  rw [am_ix (by omega)]
  exact kk p l e s m args below meth c g X H locs ls hP hz hS hl
theorem am_setA {g : am_G} {k n j : Nat} {v : Int} {rs : List (Option Nat)} {kd : Nat} (h : sh[k]? = some (kd, n, rs)) (E : (Nat → Int) → va_E) (hE : ∀ σ : am_St, am_ce g σ k (kd, n, rs) = E (σ.1 k)) :
    (am_ws g sh σ).set k (am_n0 g + k, E (fun j' => if j' = j then v else σ.1 k j')) = am_ws g sh (am_up σ.1 k j v, σ.2) := by
  rw [← am_ws_set (σ := σ) (σ' := (am_up σ.1 k j v, σ.2)) h (fun k' q' hk hq => am_ce_o (σ := σ) (σ' := (am_up σ.1 k j v, σ.2)) (am_up_o hk) rfl q'), hE]
  simp only [am_up_row]
theorem am_setAL {g : am_G} {k n j : Nat} {v : Int} {rs : List (Option Nat)} {kd : Nat} (h : sh[k]? = some (kd, n, rs)) (E : (Nat → Int) → va_E) (hE : ∀ σ : am_St, am_ce g σ k (kd, n, rs) = E (σ.2 k)) :
    (am_ws g sh σ).set k (am_n0 g + k, E (fun j' => if j' = j then v else σ.2 k j')) = am_ws g sh (σ.1, am_up σ.2 k j v) := by
  rw [← am_ws_set (σ := σ) (σ' := (σ.1, am_up σ.2 k j v)) h (fun k' q' hk hq => am_ce_o (σ := σ) (σ' := (σ.1, am_up σ.2 k j v)) rfl (am_up_o hk) q'), hE]
  simp only [am_up_row]
theorem am_updI (f : Nat → Int) (j : Nat) (v : Int) : upd (fun j => Int32.ofInt (f j)) j (Int32.ofInt v) = fun j' => Int32.ofInt (if j' = j then v else f j') := by
  funext j'; by_cases h : j' = j <;> simp [upd, h]
theorem am_updL (f : Nat → Int) (j : Nat) (v : Int) : vp_updL (fun j => Int64.ofInt (f j)) j (Int64.ofInt v) = fun j' => Int64.ofInt (if j' = j then v else f j') := by
  funext j'; by_cases h : j' = j <;> simp [vp_updL, h]
theorem V_iast {k n i : Nat} {z v : Int} {rs : List (Option Nat)} (hd : decode (am_c M) pc = .ok (.iastore, 1)) (hq : sh[k]? = some (12, n, rs)) (hlen : (Nat.ble sh.length 1000000 && Nat.blt n 2147483648) = true) (hz : z = (i : Int)) (hi : i < n)
    (kk : am_V x M Po cs sh (am_up σ.1 k i v, σ.2) (pc + 1) lv st) : am_V x M Po cs sh σ pc lv (Zi v :: Zi z :: Zr k :: st) := by
  subst hz
  have hl1 := Nat.le_of_ble_eq_true (Bool.and_eq_true_iff.mp hlen).1
  have hl2 : n < 2147483648 := Nat.le_of_ble_eq_true (Bool.and_eq_true_iff.mp hlen).2
  intro p l e s m args below meth c g X H locs ls hP hz hS hl
  obtain ⟨hx, hb, hret, hml, hown, hts, hK, hlk, hnm, hxs⟩ := id X
  have he : (am_ws g sh σ)[k]? = some (am_n0 g + k, .inl (am_cy g 0, n, .inl (fun j => Int32.ofInt (σ.1 k j)))) := am_ws_at hq
  rw [List.map_cons, List.map_cons, List.map_cons]
  show W _ _ _ _ _ _ _ _ _ _ _ _ _ _ _ (F0 m pc ls (.int (Int32.ofInt v) :: .int (Int32.ofInt (i : Int)) :: .ref (am_ad g k) :: _))
  rw [am_lift hq hl1]
  refine va_iast hx hb hK.1 hP (am_ws_D g sh σ) hS k 0 he rfl (am_inb hi hl2) hd (fun H1 locs1 hP1 hD1 hS1 => ?_)
  rw [am_ix (by omega), am_updI, am_setA (σ := σ) hq (fun f => .inl (am_cy g 0, n, .inl (fun j => Int32.ofInt (f j)))) (fun _ => rfl)] at hP1
  exact kk p l e s m args below meth c g X H1 locs1 ls hP1 hz hS1 hl
theorem V_zast {k n i : Nat} {z v : Int} {rs : List (Option Nat)} (hd : decode (am_c M) pc = .ok (.bastore, 1)) (hq : sh[k]? = some (14, n, rs)) (hlen : (Nat.ble sh.length 1000000 && Nat.blt n 2147483648) = true) (hz : z = (i : Int)) (hi : i < n) (hv : v = 0 ∨ v = 1)
    (kk : am_V x M Po cs sh (am_up σ.1 k i v, σ.2) (pc + 1) lv st) : am_V x M Po cs sh σ pc lv (Zi v :: Zi z :: Zr k :: st) := by
  subst hz
  have hl1 := Nat.le_of_ble_eq_true (Bool.and_eq_true_iff.mp hlen).1
  have hl2 : n < 2147483648 := Nat.le_of_ble_eq_true (Bool.and_eq_true_iff.mp hlen).2
  intro p l e s m args below meth c g X H locs ls hP hz hS hl
  obtain ⟨hx, hb, hret, hml, hown, hts, hK, hlk, hnm, hxs⟩ := id X
  have he : (am_ws g sh σ)[k]? = some (am_n0 g + k, .inl (am_cy g 2, n, .inl (fun j => Int32.ofInt (σ.1 k j)))) := am_ws_at hq
  rw [List.map_cons, List.map_cons, List.map_cons]
  show W _ _ _ _ _ _ _ _ _ _ _ _ _ _ _ (F0 m pc ls (.int (Int32.ofInt v) :: .int (Int32.ofInt (i : Int)) :: .ref (am_ad g k) :: _))
  rw [am_lift hq hl1]
  have hnar : vp_nar .boolean (Int32.ofInt v) = Int32.ofInt v := by rcases hv with rfl | rfl <;> rfl
  refine va_zast hx hb hK.1 hP (am_ws_D g sh σ) hS k 2 he rfl (am_inb hi hl2) hd (fun H1 locs1 hP1 hD1 hS1 => ?_)
  rw [hnar, am_ix (by omega), am_updI, am_setA (σ := σ) hq (fun f => .inl (am_cy g 2, n, .inl (fun j => Int32.ofInt (f j)))) (fun _ => rfl)] at hP1
  exact kk p l e s m args below meth c g X H1 locs1 ls hP1 hz hS1 hl
theorem V_last {k n i : Nat} {z v : Int} {rs : List (Option Nat)} (hd : decode (am_c M) pc = .ok (.lastore, 1)) (hq : sh[k]? = some (13, n, rs)) (hlen : (Nat.ble sh.length 1000000 && Nat.blt n 2147483648) = true) (hz : z = (i : Int)) (hi : i < n)
    (kk : am_V x M Po cs sh (σ.1, am_up σ.2 k i v) (pc + 1) lv st) : am_V x M Po cs sh σ pc lv (Zl v :: Zi z :: Zr k :: st) := by
  subst hz
  have hl1 := Nat.le_of_ble_eq_true (Bool.and_eq_true_iff.mp hlen).1
  have hl2 : n < 2147483648 := Nat.le_of_ble_eq_true (Bool.and_eq_true_iff.mp hlen).2
  intro p l e s m args below meth c g X H locs ls hP hz hS hl
  obtain ⟨hx, hb, hret, hml, hown, hts, hK, hlk, hnm, hxs⟩ := id X
  have he : (am_ws g sh σ)[k]? = some (am_n0 g + k, .inl (am_cy g 1, n, .inr (.inl (fun j => Int64.ofInt (σ.2 k j))))) := am_ws_at hq
  rw [List.map_cons, List.map_cons, List.map_cons]
  show W _ _ _ _ _ _ _ _ _ _ _ _ _ _ _ (F0 m pc ls (.long (Int64.ofInt v) :: .int (Int32.ofInt (i : Int)) :: .ref (am_ad g k) :: _))
  rw [am_lift hq hl1]
  refine va_last hx hb hK.1 hP (am_ws_D g sh σ) hS k 1 he rfl (am_inb hi hl2) hd (fun H1 locs1 hP1 hD1 hS1 => ?_)
  rw [am_ix (by omega), am_updL, am_setAL (σ := σ) hq (fun f => .inl (am_cy g 1, n, .inr (.inl (fun j => Int64.ofInt (f j))))) (fun _ => rfl)] at hP1
  exact kk p l e s m args below meth c g X H1 locs1 ls hP1 hz hS1 hl
end AMH
end
section
/-! ===== returns and calls ===== -/
theorem am_size {p : Program} {l : Launch} {e : Env} {R : Room} {s : State} {m : MethodId} {args : Array Value} {below : List Frame} {meth : Method} {c : Code} {H : Heap} {locs : List Loc} {cells slots : Nat} {Q : State → Prop} {gf : JFrame} {g : am_G} {sh : am_Sh} {σ : am_St}
    (hP : va_P (am_D g) am_cl (am_ws g sh σ) H) (hS : va_S (am_A g) s.heap H locs) (h0 : s.heap.size + cells = am_n0 g + sh.length) (hn : am_n0 g ≤ s.heap.size)
    (k : H.size = am_n0 g + sh.length → W p l e R s m args below meth c H locs cells slots Q gf) : W p l e R s m args below meth c H locs cells slots Q gf := by
  intro T hT X
  have h1 := X.heapSize
  rw [hT] at h1
  have h2 : am_n0 g + sh.length ≤ H.size := by
    by_cases hl : sh.length = 0
    · have := hS.1; omega
    · have h3 : sh.length - 1 < sh.length := by omega
      have h4 : sh[sh.length - 1]? = some sh[sh.length - 1] := List.getElem?_eq_getElem h3
      have h5 : am_n0 g + (sh.length - 1) < H.size := (hP _ _ (am_ws_at h4)).lt
      omega
  exact k (by omega) T hT X
section AMT
variable {x : am_Sc} {M : am_MT} {Po : Option am_AV → am_Sh → am_St → Prop} {cs : Nat × Nat} {sh : am_Sh} {σ : am_St} {pc : Nat} {lv : List (Option am_AV)} {st : List am_AV}
theorem am_fitc {a b c d : Nat} (h : (Nat.ble a b && Nat.ble c d) = true) : a ≤ b ∧ c ≤ d := ⟨Nat.le_of_ble_eq_true (Bool.and_eq_true_iff.mp h).1, Nat.le_of_ble_eq_true (Bool.and_eq_true_iff.mp h).2⟩
theorem V_iret {z : Int} (hd : decode (am_c M) pc = .ok (.ireturn, 1)) (hr : M.2.2.2.1 = some .int) (hc : (Nat.ble cs.1 M.2.2.2.2.cells && Nat.ble cs.2 M.2.2.2.2.slots) = true) (h : Po (some (Zi z)) sh σ) : am_V x M Po cs sh σ pc lv [Zi z] := by
  intro p l e s m args below meth c g X H locs ls hP hz hS hl
  obtain ⟨hx, hb, hret, hml, hown, hts, hK, hlk, hnm, hxs⟩ := id X
  refine am_size hP hS hz hK.2.1 (fun hsz => ?_)
  refine W.widen (am_fitc hc).1 (am_fitc hc).2 ?_
  exact W.iret hx hb (hret.trans hr) (fun t ht hW => ⟨⟨some (Zi z), sh, σ, rfl, h, by rw [ht]; exact hP, by rw [ht]; exact hsz⟩, hS.F ht⟩) hS.2.2 hd hlk
theorem V_zret {z : Int} (hd : decode (am_c M) pc = .ok (.ireturn, 1)) (hr : M.2.2.2.1 = some .boolean) (hc : (Nat.ble cs.1 M.2.2.2.2.cells && Nat.ble cs.2 M.2.2.2.2.slots) = true) (hv : z = 0 ∨ z = 1) (h : Po (some (Zi z)) sh σ) : am_V x M Po cs sh σ pc lv [Zi z] := by
  intro p l e s m args below meth c g X H locs ls hP hz hS hl
  obtain ⟨hx, hb, hret, hml, hown, hts, hK, hlk, hnm, hxs⟩ := id X
  refine am_size hP hS hz hK.2.1 (fun hsz => ?_)
  refine W.widen (am_fitc hc).1 (am_fitc hc).2 ?_
  exact W.zret hx hb (hret.trans hr) (by rcases hv with rfl | rfl <;> rfl) (fun t ht hW => ⟨⟨some (Zi z), sh, σ, rfl, h, by rw [ht]; exact hP, by rw [ht]; exact hsz⟩, hS.F ht⟩) hS.2.2 hd hlk
theorem V_lret {z : Int} (hd : decode (am_c M) pc = .ok (.lreturn, 1)) (hr : M.2.2.2.1 = some .long) (hc : (Nat.ble cs.1 M.2.2.2.2.cells && Nat.ble cs.2 M.2.2.2.2.slots) = true) (h : Po (some (Zl z)) sh σ) : am_V x M Po cs sh σ pc lv [Zl z] := by
  intro p l e s m args below meth c g X H locs ls hP hz hS hl
  obtain ⟨hx, hb, hret, hml, hown, hts, hK, hlk, hnm, hxs⟩ := id X
  refine am_size hP hS hz hK.2.1 (fun hsz => ?_)
  refine W.widen (am_fitc hc).1 (am_fitc hc).2 ?_
  exact W.lret hx hb (hret.trans hr) (fun t ht hW => ⟨⟨some (Zl z), sh, σ, rfl, h, by rw [ht]; exact hP, by rw [ht]; exact hsz⟩, hS.F ht⟩) hS.2.2 hd hlk
theorem V_aret {k : Nat} {n : String} (hd : decode (am_c M) pc = .ok (.areturn, 1)) (hr : M.2.2.2.1 = some (.object n)) (hc : (Nat.ble cs.1 M.2.2.2.2.cells && Nat.ble cs.2 M.2.2.2.2.slots) = true) (h : Po (some (Zr k)) sh σ) : am_V x M Po cs sh σ pc lv [Zr k] := by
  intro p l e s m args below meth c g X H locs ls hP hz hS hl
  obtain ⟨hx, hb, hret, hml, hown, hts, hK, hlk, hnm, hxs⟩ := id X
  refine am_size hP hS hz hK.2.1 (fun hsz => ?_)
  refine W.widen (am_fitc hc).1 (am_fitc hc).2 ?_
  exact W.aret hx hb (hret.trans hr) (Or.inl ⟨n, rfl⟩) (Or.inr ⟨am_ad g k, rfl⟩) (fun t ht hW => ⟨⟨some (Zr k), sh, σ, rfl, h, by rw [ht]; exact hP, by rw [ht]; exact hsz⟩, hS.F ht⟩) hS.2.2 hd hlk
theorem V_ret (hd : decode (am_c M) pc = .ok (.return_, 1)) (hr : M.2.2.2.1 = none) (hc : (Nat.ble cs.1 M.2.2.2.2.cells && Nat.ble cs.2 M.2.2.2.2.slots) = true) (h : Po none sh σ) : am_V x M Po cs sh σ pc lv [] := by
  intro p l e s m args below meth c g X H locs ls hP hz hS hl
  obtain ⟨hx, hb, hret, hml, hown, hts, hK, hlk, hnm, hxs⟩ := id X
  refine am_size hP hS hz hK.2.1 (fun hsz => ?_)
  refine W.widen (am_fitc hc).1 (am_fitc hc).2 ?_
  exact W.vret hx hb (hret.trans hr) (fun t ht hW => ⟨⟨none, sh, σ, rfl, h, by rw [ht]; exact hP, by rw [ht]; exact hsz⟩, hS.F ht⟩) hS.2.2 hd hlk
theorem V_alen {k n : Nat} {rs : List (Option Nat)} (hd : decode (am_c M) pc = .ok (.arraylength, 1)) (hq : sh[k]? = some (12, n, rs)) (hlen : Nat.ble sh.length 1000000 = true)
    (kk : am_V x M Po cs sh σ (pc + 1) lv (Zi (n : Int) :: st)) : am_V x M Po cs sh σ pc lv (Zr k :: st) := by
  intro p l e s m args below meth c g X H locs ls hP hz hS hl
  obtain ⟨hx, hb, hret, hml, hown, hts, hK, hlk, hnm, hxs⟩ := id X
  have he : (am_ws g sh σ)[k]? = some (am_n0 g + k, .inl (am_cy g 0, n, .inl (fun j => Int32.ofInt (σ.1 k j)))) := am_ws_at hq
  rw [List.map_cons]
  show W _ _ _ _ _ _ _ _ _ _ _ _ _ _ _ (F0 m pc ls (.ref (am_ad g k) :: _))
  rw [am_lift hq (Nat.le_of_ble_eq_true hlen)]
  exact va_alen hx hb hK.1 hP k 0 he rfl (v := Int32.ofInt (n : Int)) rfl hd (kk p l e s m args below meth c g X H locs ls hP hz hS hl)
theorem V_aald {k n i r kd : Nat} {z : Int} {rs : List (Option Nat)} (hd : decode (am_c M) pc = .ok (.aaload, 1)) (hq : sh[k]? = some (kd, n, rs)) (hkd : kd = 15 ∨ kd = 16) (hlen : (Nat.ble sh.length 1000000 && Nat.blt n 2147483648) = true) (hz : z = (i : Int)) (hi : i < n) (hr : rs.getD i none = some r)
    (kk : am_V x M Po cs sh σ (pc + 1) lv (Zr r :: st)) : am_V x M Po cs sh σ pc lv (Zi z :: Zr k :: st) := by
  subst hz
  have hl1 := Nat.le_of_ble_eq_true (Bool.and_eq_true_iff.mp hlen).1
  have hl2 : n < 2147483648 := Nat.le_of_ble_eq_true (Bool.and_eq_true_iff.mp hlen).2
  intro p l e s m args below meth c g X H locs ls hP hz hS hl
  obtain ⟨hx, hb, hret, hml, hown, hts, hK, hlk, hnm, hxs⟩ := id X
  rw [List.map_cons, List.map_cons]
  show W _ _ _ _ _ _ _ _ _ _ _ _ _ _ _ (F0 m pc ls (.int (Int32.ofInt (i : Int)) :: .ref (am_ad g k) :: _))
  rw [am_lift hq hl1]
  have hv : am_rr g rs i = some (am_ad g r) := by unfold am_rr; rw [hr]; rfl
  have kk2 := kk p l e s m args below meth c g X H locs ls hP hz hS hl
  rcases hkd with rfl | rfl
  · have he : H[am_n0 g + k]? = some (vp_cell (am_cy g 3) (n, .inr (.inr (.inr (.inr (am_rr g rs)))))) := hP k _ (am_ws_at hq)
    rw [vp_cell_q] at he
    exact W.aald (v := va_rf (am_rr g rs i)) (ty := .array .int) hx hb he ((hK.1.2 3 _ rfl).1 n _) rfl (fun q => by cases q) (by rw [arrV_size]; exact am_inb hi hl2) (by rw [am_ix (by omega), arrV_read _ _ hi]) rfl rfl hd (by rw [hv]; exact kk2)
  · have he : H[am_n0 g + k]? = some (vp_cell (am_cy g 4) (n, .inr (.inr (.inr (.inr (am_rr g rs)))))) := hP k _ (am_ws_at hq)
    rw [vp_cell_q] at he
    exact W.aald (v := va_rf (am_rr g rs i)) (ty := .array .long) hx hb he ((hK.1.2 4 _ rfl).1 n _) rfl (fun q => by cases q) (by rw [arrV_size]; exact am_inb hi hl2) (by rw [am_ix (by omega), arrV_read _ _ hi]) rfl rfl hd (by rw [hv]; exact kk2)
/-- the law's own script: 1000000 is its number -/
theorem V_sld {i : Nat} {z : Int} (hd : decode (am_c M) pc = .ok (.iaload, 1)) (hz : z = (i : Int)) (hi : i < x.1) (hL : x.1 < 2147483648)
    (kk : am_V x M Po cs sh σ (pc + 1) lv (Zi (x.2 i).toInt :: st)) : am_V x M Po cs sh σ pc lv (Zi z :: Zr 1000000 :: st) := by
  subst hz
  intro p l e s m args below meth c g X H locs ls hP hz hS hl
  obtain ⟨hx, hb, hret, hml, hown, hts, hK, hlk, hnm, hxs⟩ := id X
  obtain ⟨k1, k2, k3, k4, k5, k7, k6, k8⟩ := hK.2.2
  have e1 : g.2.2.2.2.1 = x.1 := by rw [← hxs]
  have e2 : g.2.2.2.2.2 = x.2 := by rw [← hxs]
  rw [e1, e2] at k3
  have k := kk p l e s m args below meth c g X H locs ls hP hz hS hl
  rw [List.map_cons, am_cv, am_of] at k
  rw [List.map_cons, List.map_cons]
  show W _ _ _ _ _ _ _ _ _ _ _ _ _ _ _ (F0 m pc ls (.int (Int32.ofInt (i : Int)) :: .ref (g.2.1 0) :: _))
  refine va_sld hx hb k3 (Nat.lt_of_lt_of_le k4 hK.2.1) (Nat.not_le.mpr k4) hS (am_inb hi hL) hd ?_
  rw [am_ix (by omega)]
  exact k
theorem V_slen (hd : decode (am_c M) pc = .ok (.arraylength, 1))
    (kk : am_V x M Po cs sh σ (pc + 1) lv (Zi (x.1 : Int) :: st)) : am_V x M Po cs sh σ pc lv (Zr 1000000 :: st) := by
  intro p l e s m args below meth c g X H locs ls hP hz hS hl
  obtain ⟨hx, hb, hret, hml, hown, hts, hK, hlk, hnm, hxs⟩ := id X
  obtain ⟨k1, k2, k3, k4, k5, k7, k6, k8⟩ := hK.2.2
  have e1 : g.2.2.2.2.1 = x.1 := by rw [← hxs]
  rw [e1] at k3
  rw [List.map_cons]
  show W _ _ _ _ _ _ _ _ _ _ _ _ _ _ _ (F0 m pc ls (.ref (g.2.1 0) :: _))
  exact va_slen hx hb k3 (Nat.lt_of_lt_of_le k4 hK.2.1) (Nat.not_le.mpr k4) hS hd (kk p l e s m args below meth c g X H locs ls hP hz hS hl)
end AMT
/-! a callee's start -/
def am_ent : List am_AV → List (Option am_AV)
  | [] => []
  | v :: vs => match v with
    | .inl z => some (Zi z) :: am_ent vs
    | .inr (.inl z) => some (Zl z) :: none :: am_ent vs
    | .inr (.inr (.inl k)) => some (Zr k) :: am_ent vs
    | .inr (.inr (.inr _)) => some Zo :: am_ent vs
def am_lv (vs : List am_AV) (n : Nat) : List (Option am_AV) := am_ent vs ++ List.replicate (n - (am_ent vs).length) none
theorem am_ent_len (g : am_G) : ∀ vs : List am_AV, (lg_sl (vs.map (am_cv g))).length = (am_ent vs).length
  | [] => rfl
  | v :: vs => by
    have ih := am_ent_len g vs
    rcases v with z | z | k | u
    · simp [lg_sl, am_ent, am_cv, Value.category] at ih ⊢; omega
    · simp [lg_sl, am_ent, am_cv, Value.category] at ih ⊢; omega
    · simp [lg_sl, am_ent, am_cv, Value.category] at ih ⊢; omega
    · rcases va_rf_or (am_fm g) with h | ⟨a, h⟩ <;> simp [lg_sl, am_ent, am_cv, h, Value.category] at ih ⊢ <;> omega
theorem am_ent_in (g : am_G) : ∀ (vs : List am_AV) (a i : Nat) (v : am_AV), (am_ent vs)[i]? = some (some v) → (a + i, am_cv g v) ∈ lv_args a (vs.map (am_cv g))
  | [], a, i, v, h => by simp [am_ent] at h
  | u :: vs, a, i, v, h => by
    have ih := am_ent_in g vs
    rcases u with z | z | k | u
    · cases i with
      | zero => simp [am_ent] at h; subst h; exact List.mem_cons_self
      | succ i =>
        have h2 := ih (a + 1) i v (by simpa [am_ent] using h)
        rw [show a + (i + 1) = a + 1 + i by omega]
        exact List.mem_cons_of_mem _ h2
    · cases i with
      | zero => simp [am_ent] at h; subst h; exact List.mem_cons_self
      | succ i =>
        cases i with
        | zero => simp [am_ent] at h
        | succ i =>
          have h2 := ih (a + 2) i v (by simpa [am_ent] using h)
          rw [show a + (i + 1 + 1) = a + 2 + i by omega]
          exact List.mem_cons_of_mem _ h2
    · cases i with
      | zero => simp [am_ent] at h; subst h; exact List.mem_cons_self
      | succ i =>
        have h2 := ih (a + 1) i v (by simpa [am_ent] using h)
        rw [show a + (i + 1) = a + 1 + i by omega]
        exact List.mem_cons_of_mem _ h2
    · have hc : ¬ (am_cv g Zo).category = 2 := by rcases va_rf_or (am_fm g) with h9 | ⟨a9, h9⟩ <;> simp [am_cv, h9, Value.category]
      cases i with
      | zero => simp [am_ent] at h; subst h; exact List.mem_cons_self
      | succ i =>
        have h2 := ih (a + 1) i v (by simpa [am_ent] using h)
        rw [show a + (i + 1) = a + 1 + i by omega]
        show _ ∈ (a, am_cv g Zo) :: lv_args (if (am_cv g Zo).category = 2 then a + 2 else a + 1) _
        rw [if_neg hc]
        exact List.mem_cons_of_mem _ h2
theorem am_L_ent (g : am_G) {vs : List am_AV} {n : Nat} (h : (am_ent vs).length ≤ n) : am_L g ((lg_sl (vs.map (am_cv g)) ++ List.replicate (n - (lg_sl (vs.map (am_cv g))).length) Slot.unset).toArray) n (am_lv vs n) := by
  obtain ⟨h1, h2, h3⟩ := lv_entry (vs.map (am_cv g)) (n := n) (by rw [am_ent_len]; exact h)
  refine ⟨h1, h2, by simp [am_lv]; omega, fun i v hi => ?_⟩
  have hi2 : (am_ent vs)[i]? = some (some v) := by
    unfold am_lv at hi
    by_cases hl : i < (am_ent vs).length
    · rwa [List.getElem?_append_left hl] at hi
    · rw [List.getElem?_append_right (by omega), List.getElem?_replicate] at hi
      split at hi <;> cases hi
  have h4 := am_ent_in g vs 0 i v hi2
  rw [Nat.zero_add] at h4
  exact h3 _ h4
theorem am_ao {s U : State} {ty : FieldType} (ha : s.vm.Alike U.vm) (h : (Cond.arrayOver (.array ty)).before #[] s = true) : (Cond.arrayOver (.array ty)).before #[] U = true := Jvm.Stand.arrayOver_alikeB ha h
theorem am_K_same {g : am_G} {U U' : State} (hh : U'.heap = U.heap) (hv : U'.vm = U.vm) (h : am_K g U) : am_K g U' := by
  have ha : U.vm.Alike U'.vm := by rw [hv]; exact Vm.Alike.refl _
  obtain ⟨h1, h2, k1, k2, k3, k4, k5, k7, k6, k8⟩ := h
  refine ⟨h1.moved ha, by rw [hh]; exact h2, by rw [hh]; exact k1.moved ha, fun q hq => (k2 q hq).same hv, by rw [hh]; exact k3.moved ha, k4, fun w hw => ?_, fun ty hty => am_ao ha (k7 ty hty), by rw [hh]; exact k6.moved ha, by rw [hh]; exact k8.moved ha⟩
  refine va_Nw.same ?_ hv.symm (k5 w hw)
  simp only [am_nst, List.mem_cons, List.not_mem_nil, or_false] at hw
  rcases hw with rfl | rfl | rfl | rfl <;> rfl
theorem am_K_warm {g : am_G} {s U : State} {H : Heap} {locs : List Loc} (hS : va_S (am_A g) s.heap H locs) (hU : U.heap = H) (hW : s.WarmedH U.vm) (h : am_K g s) : am_K g U := by
  have ha := hW.alike
  obtain ⟨h1, h2, k1, k2, k3, k4, k5, k7, k6, k8⟩ := h
  subst hU
  refine ⟨h1.moved ha, Nat.le_trans h2 hS.1, (k1.kept hS.2.1).moved ha, fun q hq => (k2 q hq).warm hW, (k3.kept (hS.2.1 _ (Nat.lt_of_lt_of_le k4 h2) (Nat.not_le.mpr k4))).moved ha, k4, fun w hw => ?_, fun ty hty => am_ao ha (k7 ty hty), (k6.kept hS.2.1).moved ha, (k8.kept hS.2.1).moved ha⟩
  have h9 := k5 w hw
  simp only [am_nst, List.mem_cons, List.not_mem_nil, or_false] at hw
  rcases hw with rfl | rfl | rfl | rfl <;> exact va_Nw.warmM hW h9
abbrev am_w (M : am_MT) : List Cond := Cond.code M.1 M.2.1 M.2.2.1 M.2.2.2.1 :: am_tbl
abbrev am_Pc (g : am_G) (vs : List am_AV) (sh : am_Sh) (σ : am_St) : Array Value → State → Prop := va_Pc (vs.map (am_cv g)) (fun U => U.heap.size = am_n0 g + sh.length ∧ va_P (am_D g) am_cl (am_ws g sh σ) U.heap ∧ am_K g U)
theorem am_blind (g : am_G) (vs : List am_AV) (sh : am_Sh) (σ : am_St) : FrameBlind (am_Pc g vs sh σ) := fun a U gf mk q => ⟨q.1, q.2.1, q.2.2.1, am_K_same (U := U) (U' := U.calling gf mk a) rfl rfl q.2.2.2⟩
theorem am_met {x : am_Sc} {M : am_MT} {Po : Option am_AV → am_Sh → am_St → Prop} {sh : am_Sh} {σ : am_St} {vs : List am_AV} (K : am_V x M Po (0, 0) sh σ 0 (am_lv vs M.2.2.1) []) (hp : plainName M.1.cls = true) (hl : (am_ent vs).length ≤ M.2.2.1) (l : Launch) (g : am_G) (hg : g.2.2.2.2 = x) :
    Met l M.1 (am_w M) M.2.2.2.2 (am_Pc g vs sh σ) (am_Q g Po) M.2.2.2.2.cells M.2.2.2.2.slots (am_A g) := by
  refine Met.ofW (cc := M.2.1) (maxL := M.2.2.1) (ret := M.2.2.2.1) hp rfl ?_
  intro p e s m args below meth c s₁ B hml hv
  obtain ⟨rfl, hsz, hP, hK⟩ := hv
  have hts := atoms_spec (ws := am_w M) B.pre
  rw [lg_entry_eq]
  exact K p l e s m _ below meth c g ⟨B.exec, B.bytes, B.returns, hml, findClass_of_methodNamed B.named, fun w hw => hts w (List.mem_cons_of_mem _ hw), hK, B.notSynchronized, (name_of_methodNamed B.named B.method).1, hg⟩ s.heap [] _ hP hsz va_S.rf (am_L_ent g hl)
def am_psh (r : Option am_AV) (st : List am_AV) : List am_AV := match r with
  | none => st
  | some v => v :: st
theorem am_good2 {w : Cond} (h : w ∈ am_tbl) : w ∈ am_tbl ∧ ((w.onTables && w.keeps) = true ∨ ∃ ty, w = .arrayClass ty) := am_good w h
/-- what every call needs: the callee's code and class among the words, its room within the caller's -/
def am_CB (M M' : am_MT) (n : Nat) : Prop := Cond.code M'.1 M'.2.1 M'.2.2.1 M'.2.2.2.1 ∈ am_tbl ∧ Cond.initialized M'.1.cls ∈ am_tbl ∧ plainName M'.1.cls = true ∧ (M'.1.cls ≠ "java/lang/invoke/MethodHandle" ∧ M'.1.cls ≠ "java/lang/invoke/VarHandle" ∧ (parseMethodDescriptor M'.1.desc).map (fun d => d.parameters.length) = some n) ∧ (M'.2.2.2.2.frames + 1 ≤ M.2.2.2.2.frames ∧ 8 + (M'.2.2.1 + 11) + M'.2.2.2.2.locals ≤ M.2.2.2.2.locals)
theorem am_CB.w {M M' : am_MT} {n : Nat} (h : am_CB M M' n) : GoodIn am_tbl (am_w M') := fun w hw => (List.mem_cons.mp hw).elim (fun e => by rw [e]; exact am_good2 h.1) (fun q => am_good2 q)
def am_CV (M M' : am_MT) (idx n : Nat) : Prop := am_CB M M' n ∧ Cond.methodLink M.1.cls idx M'.1 ∈ am_tbl ∧ Cond.instanceMethod M'.1 ∈ am_tbl ∧ Cond.selects M'.1.cls M'.1 M'.1 ∈ am_tbl
def am_CS (M M' : am_MT) (idx n : Nat) : Prop := am_CB M M' n ∧ Cond.methodLink M.1.cls idx M'.1 ∈ am_tbl ∧ Cond.static M'.1 ∈ am_tbl
def am_CI (M M' : am_MT) (idx n : Nat) : Prop := am_CB M M' n ∧ Cond.methodLink M.1.cls idx M'.1 ∈ am_tbl ∧ Cond.instanceMethod M'.1 ∈ am_tbl ∧ M'.1.name = "<init>" ∧ M'.2.2.2.1 = none
def am_CSN (M M' : am_MT) (idx n : Nat) : Prop := am_CB M M' n ∧ (∃ host, Cond.methodLinkNest M.1.cls idx M'.1 host ∈ am_nst) ∧ Cond.static M'.1 ∈ am_tbl
def am_CIN (M M' : am_MT) (idx n : Nat) : Prop := am_CB M M' n ∧ (∃ host, Cond.methodLinkNest M.1.cls idx M'.1 host ∈ am_nst) ∧ Cond.instanceMethod M'.1 ∈ am_tbl ∧ M'.1.name = "<init>" ∧ M'.2.2.2.1 = none
theorem am_catsum (g : am_G) (st : List am_AV) (h : Nat.ble st.length 4 = true) : ((st.map (am_cv g)).map fun v => v.category).sum ≤ 8 := by
  have h := Nat.le_of_ble_eq_true h
  have : ∀ l : List am_AV, ((l.map (am_cv g)).map fun v => v.category).sum ≤ 2 * l.length := by
    intro l
    induction l with
    | nil => simp
    | cons v l ih =>
      simp only [List.map_cons, List.sum_cons, List.length_cons]
      rcases lv_cat (am_cv g v) with q | q <;> omega
  have := this st
  omega
section AMC
variable {x : am_Sc} {M M' : am_MT} {Po Po' : Option am_AV → am_Sh → am_St → Prop} {cs : Nat × Nat} {sh : am_Sh} {σ : am_St} {pc : Nat} {lv : List (Option am_AV)} {st vs : List am_AV}
/-- behind a call -/
theorem am_back {p : Program} {l : Launch} {e : Env} {s : State} {m : MethodId} {args a : Array Value} {below : List Frame} {meth : Method} {c : Code} {H : Heap} {locs : List Loc} {ls : Array Slot} {g : am_G} {st0 : List Value} {mc ms : Nat} (X : am_CX x M g p s m args meth c)
    (hP : va_P (am_D g) am_cl (am_ws g sh σ) H) (hz : s.heap.size + cs.1 = am_n0 g + sh.length) (hS : va_S (am_A g) s.heap H locs) (hl : am_L g ls M.2.2.1 lv)
    (hr : va_Run p l e M.2.2.2.2 s m args below meth c H locs cs.1 cs.2 mc ms (F0 m pc ls st0) (st.map (am_cv g)) (am_Q g Po' a) (am_A g))
    (k : ∀ r sh' σ', Po' r sh' σ' → (mc = 0 ∨ sh'.length = sh.length + mc) ∧ am_V x M Po (cs.1 + mc, cs.2 + ms) sh' σ' (pc + 3) lv (am_psh r st)) :
    W p l e M.2.2.2.2 s m args below meth c H locs cs.1 cs.2 (MQ below (am_Q g Po) args s M.2.2.2.2.cells M.2.2.2.2.slots (am_A g)) (F0 m pc ls st0) := by
  refine am_size hP hS hz X.2.2.2.2.2.2.1.2.1 (fun hsz => ?_)
  intro T hT XT
  obtain ⟨v, st₀, t, T', L, h0, X', hL, e1, e2, ⟨⟨r, sh', σ', hv, hp, hP1, hz1⟩, hzz, hk⟩, stp⟩ := hr T hT XT
  cases hv
  obtain ⟨k1, k2⟩ := k r sh' σ' hp
  have hup := X'.heapSize
  rw [h0] at hzz hk
  rw [e1] at hup
  have hlen : sh'.length = sh.length + mc := by
    rcases k1 with k1 | k1
    · omega
    · exact k1
  have hS1 : va_S (am_A g) s.heap T'.heap (locs ++ L) := ⟨Nat.le_trans hS.1 (by rw [e1]; exact hzz), fun q h1 h2 => by rw [e1, hk q (Nat.lt_of_lt_of_le h1 hS.1) h2]; exact hS.2.1 q h1 h2, fun q hq => by
      rcases List.mem_append.mp hq with h | h
      · exact hS.2.2 q h
      · exact hL q h⟩
  obtain ⟨t2, a1, b1⟩ := k2 p l e s m args below meth c g X T'.heap (locs ++ L) ls (by rw [e1]; exact hP1) (by show s.heap.size + (cs.1 + mc) = _; omega) hS1 hl T' rfl X'
  refine ⟨t2, stp t2 ?_, b1⟩
  have e9 : (r.map (am_cv g)).toList ++ st.map (am_cv g) = (am_psh r st).map (am_cv g) := by cases r <;> rfl
  show Steps p.tables e below (T'.setTop (F0 m (pc + 3) ls ((r.map (am_cv g)).toList ++ st.map (am_cv g)))) t2
  rw [e9]
  exact a1
theorem am_call0 {n b ci nn : Nat} {rs : List (Option Nat)} {C : String} {T : u_T} {N idx : Nat} (L : am_CV M M' idx n) (hd : decode (am_c M) pc = .ok (.invokevirtual idx, 3)) (hq : sh[b]? = some (ci, nn, rs)) (hc : am_cl[ci]? = some (C, T, N)) (hC : M'.1.cls = C) (hlen : sh.length ≤ 1000000) (hn : vs.length = n)
    (hent : (am_ent (Zr b :: vs)).length ≤ M'.2.2.1) (hst : Nat.ble st.length 4 = true) (hcc : cs.1 + M'.2.2.2.2.cells ≤ M.2.2.2.2.cells ∧ cs.2 + M'.2.2.2.2.slots ≤ M.2.2.2.2.slots)
    (K : am_V x M' Po' (0, 0) sh σ 0 (am_lv (Zr b :: vs) M'.2.2.1) []) (k : ∀ r sh' σ', Po' r sh' σ' → (M'.2.2.2.2.cells = 0 ∨ sh'.length = sh.length + M'.2.2.2.2.cells) ∧ am_V x M Po (cs.1 + M'.2.2.2.2.cells, cs.2 + M'.2.2.2.2.slots) sh' σ' (pc + 3) lv (am_psh r st)) :
    am_V x M Po cs sh σ pc lv (vs.reverse ++ Zr b :: st) := by
  intro p l e s m args below meth c g X H locs ls hP hz hS hl
  obtain ⟨hx, hb, hret, hml, hown, hts, hK, hlk, hnm, hxs⟩ := id X
  subst hC
  refine am_size hP hS hz hK.2.1 (fun hsz => ?_)
  have he := am_ws_at (g := g) (σ := σ) hq
  rw [am_ce_obj g σ b ci nn rs (am_cls hc).2.2.2.2] at he
  have hrv := va_recv hK.1 hP hc he
  rw [List.map_append, List.map_cons]
  show W _ _ _ _ _ _ _ _ _ _ _ _ _ _ _ (F0 m pc ls (_ ++ .ref (am_ad g b) :: _))
  rw [am_lift hq hlen]
  have e0 : (Zr b :: vs).map (am_cv g) = .ref (am_n0 g + b) :: vs.map (am_cv g) := by
    rw [List.map_cons]
    show Value.ref (am_ad g b) :: _ = _
    rw [am_lift hq hlen]
  refine am_back X hP hz hS hl (va_runV (As := vs.map (am_cv g)) (C := M'.1.cls) (nL := M.2.2.1) (n := n) ⟨hx, hb, hml, hown, hts⟩ (am_met K L.1.2.2.1 hent l g hxs) (cwV n hts (fun w hw => ?_) rfl rfl rfl ⟨rfl, L.1.2.2.2.1⟩ L.1.2.2.2.2) ⟨am_blind g _ sh σ, hrv, fun U hU hW => ⟨by rw [e0], by rw [hU]; exact hsz, by rw [hU]; exact hP, am_K_warm hS hU hW hK⟩⟩ rfl (by simpa using hn) hl.1 (by simp [List.map_reverse]) (lv_room (am_catsum g st hst)) hd hcc) k
  simp only [wsV, List.cons_append, List.nil_append, List.mem_cons] at hw
  rcases hw with rfl | rfl | rfl | rfl | rfl | hw
  · exact am_good2 L.2.1
  · exact am_good2 L.2.2.1
  · exact am_good2 L.2.2.2
  · exact am_good2 L.1.2.1
  · exact am_good2 L.1.1
  · exact am_good2 hw
theorem am_callS {n idx : Nat} (L : am_CS M M' idx n) (hd : decode (am_c M) pc = .ok (.invokestatic idx, 3)) (hn : vs.length = n)
    (hent : (am_ent vs).length ≤ M'.2.2.1) (hst : Nat.ble st.length 4 = true) (hcc : cs.1 + M'.2.2.2.2.cells ≤ M.2.2.2.2.cells ∧ cs.2 + M'.2.2.2.2.slots ≤ M.2.2.2.2.slots)
    (K : am_V x M' Po' (0, 0) sh σ 0 (am_lv vs M'.2.2.1) []) (k : ∀ r sh' σ', Po' r sh' σ' → (M'.2.2.2.2.cells = 0 ∨ sh'.length = sh.length + M'.2.2.2.2.cells) ∧ am_V x M Po (cs.1 + M'.2.2.2.2.cells, cs.2 + M'.2.2.2.2.slots) sh' σ' (pc + 3) lv (am_psh r st)) :
    am_V x M Po cs sh σ pc lv (vs.reverse ++ st) := by
  intro p l e s m args below meth c g X H locs ls hP hz hS hl
  obtain ⟨hx, hb, hret, hml, hown, hts, hK, hlk, hnm, hxs⟩ := id X
  refine am_size hP hS hz hK.2.1 (fun hsz => ?_)
  rw [List.map_append]
  exact am_back X hP hz hS hl (va_runS (As := vs.map (am_cv g)) (nL := M.2.2.1) (n := n) ⟨hx, hb, hml, hown, hts⟩ (am_met K L.1.2.2.1 hent l g hxs) ⟨callB_of n hts L.1.w rfl rfl rfl (hts _ L.1.2.1) (hts _ L.2.1) L.1.2.2.2.1 L.1.2.2.2.2, hts _ L.2.2⟩ ⟨am_blind g _ sh σ, fun U hU hW => ⟨rfl, by rw [hU]; exact hsz, by rw [hU]; exact hP, am_K_warm hS hU hW hK⟩⟩ rfl (by simpa using hn) hl.1 (by simp [List.map_reverse]) (lv_room (am_catsum g st hst)) hd hcc) k
theorem am_callSN {n idx : Nat} (L : am_CSN M M' idx n) (hd : decode (am_c M) pc = .ok (.invokestatic idx, 3)) (hn : vs.length = n)
    (hent : (am_ent vs).length ≤ M'.2.2.1) (hst : Nat.ble st.length 4 = true) (hcc : cs.1 + M'.2.2.2.2.cells ≤ M.2.2.2.2.cells ∧ cs.2 + M'.2.2.2.2.slots ≤ M.2.2.2.2.slots)
    (K : am_V x M' Po' (0, 0) sh σ 0 (am_lv vs M'.2.2.1) []) (k : ∀ r sh' σ', Po' r sh' σ' → (M'.2.2.2.2.cells = 0 ∨ sh'.length = sh.length + M'.2.2.2.2.cells) ∧ am_V x M Po (cs.1 + M'.2.2.2.2.cells, cs.2 + M'.2.2.2.2.slots) sh' σ' (pc + 3) lv (am_psh r st)) :
    am_V x M Po cs sh σ pc lv (vs.reverse ++ st) := by
  intro p l e s m args below meth c g X H locs ls hP hz hS hl
  obtain ⟨hx, hb, hret, hml, hown, hts, hK, hlk, hnm, hxs⟩ := id X
  obtain ⟨host, hh⟩ := L.2.1
  refine am_size hP hS hz hK.2.1 (fun hsz => ?_)
  rw [List.map_append]
  exact am_back X hP hz hS hl (va_runSN (As := vs.map (am_cv g)) (nL := M.2.2.1) (n := n) ⟨hx, hb, hml, hown, hts⟩ (am_met K L.1.2.2.1 hent l g hxs) ⟨va_cnB n hts L.1.w rfl rfl rfl (hK.2.2.2.2.2.2.1 _ hh) (hts _ L.1.2.1) L.1.2.2.2.1 L.1.2.2.2.2, hts _ L.2.2, trivial⟩ ⟨am_blind g _ sh σ, fun U hU hW => ⟨rfl, by rw [hU]; exact hsz, by rw [hU]; exact hP, am_K_warm hS hU hW hK⟩⟩ rfl (by simpa using hn) hl.1 (by simp [List.map_reverse]) (lv_room (am_catsum g st hst)) hd hcc) k
theorem am_callI {n idx b : Nat} {q : Nat × Nat × List (Option Nat)} (L : am_CI M M' idx n) (hd : decode (am_c M) pc = .ok (.invokespecial idx, 3)) (hq : sh[b]? = some q) (hlen : sh.length ≤ 1000000) (hn : vs.length = n)
    (hent : (am_ent (Zr b :: vs)).length ≤ M'.2.2.1) (hst : Nat.ble st.length 4 = true) (hcc : cs.1 + M'.2.2.2.2.cells ≤ M.2.2.2.2.cells ∧ cs.2 + M'.2.2.2.2.slots ≤ M.2.2.2.2.slots)
    (K : am_V x M' Po' (0, 0) sh σ 0 (am_lv (Zr b :: vs) M'.2.2.1) []) (k : ∀ r sh' σ', Po' r sh' σ' → (M'.2.2.2.2.cells = 0 ∨ sh'.length = sh.length + M'.2.2.2.2.cells) ∧ am_V x M Po (cs.1 + M'.2.2.2.2.cells, cs.2 + M'.2.2.2.2.slots) sh' σ' (pc + 3) lv (am_psh r st)) :
    am_V x M Po cs sh σ pc lv (vs.reverse ++ Zr b :: st) := by
  intro p l e s m args below meth c g X H locs ls hP hz hS hl
  obtain ⟨hx, hb, hret, hml, hown, hts, hK, hlk, hnm, hxs⟩ := id X
  have hw0 := L.1.w
  have hm := am_met K L.1.2.2.1 hent l g hxs
  obtain ⟨LB, LL, LM, LN, LR⟩ := L
  obtain ⟨y', c', n', r', rm'⟩ := M'
  dsimp only at LB LL LM LN LR hcc k hw0 hm hent
  subst LR
  refine am_size hP hS hz hK.2.1 (fun hsz => ?_)
  rw [List.map_append, List.map_cons]
  show W _ _ _ _ _ _ _ _ _ _ _ _ _ _ _ (F0 m pc ls (_ ++ .ref (am_ad g b) :: _))
  exact am_back X hP hz hS hl (va_runI (As := vs.map (am_cv g)) (b := am_ad g b) (nL := M.2.2.1) (n := n) ⟨hx, hb, hml, hown, hts⟩ hm (cwI n hts hw0 rfl rfl rfl (hts _ LB.2.1) (hts _ LL) (hts _ LM) LN LB.2.2.2.1 LB.2.2.2.2) ⟨am_blind g _ sh σ, fun U hU hW => ⟨rfl, by rw [hU]; exact hsz, by rw [hU]; exact hP, am_K_warm hS hU hW hK⟩⟩ rfl (by simpa using hn) hl.1 (by simp [List.map_reverse]) (lv_room (am_catsum g st hst)) hd hcc) k
theorem am_callIN {n idx b : Nat} {q : Nat × Nat × List (Option Nat)} (L : am_CIN M M' idx n) (hd : decode (am_c M) pc = .ok (.invokespecial idx, 3)) (hq : sh[b]? = some q) (hlen : sh.length ≤ 1000000) (hn : vs.length = n)
    (hent : (am_ent (Zr b :: vs)).length ≤ M'.2.2.1) (hst : Nat.ble st.length 4 = true) (hcc : cs.1 + M'.2.2.2.2.cells ≤ M.2.2.2.2.cells ∧ cs.2 + M'.2.2.2.2.slots ≤ M.2.2.2.2.slots)
    (K : am_V x M' Po' (0, 0) sh σ 0 (am_lv (Zr b :: vs) M'.2.2.1) []) (k : ∀ r sh' σ', Po' r sh' σ' → (M'.2.2.2.2.cells = 0 ∨ sh'.length = sh.length + M'.2.2.2.2.cells) ∧ am_V x M Po (cs.1 + M'.2.2.2.2.cells, cs.2 + M'.2.2.2.2.slots) sh' σ' (pc + 3) lv (am_psh r st)) :
    am_V x M Po cs sh σ pc lv (vs.reverse ++ Zr b :: st) := by
  intro p l e s m args below meth c g X H locs ls hP hz hS hl
  obtain ⟨hx, hb, hret, hml, hown, hts, hK, hlk, hnm, hxs⟩ := id X
  have hw0 := L.1.w
  have hm := am_met K L.1.2.2.1 hent l g hxs
  obtain ⟨LB, ⟨host, hh⟩, LM, LN, LR⟩ := L
  obtain ⟨y', c', n', r', rm'⟩ := M'
  dsimp only at LB LM LN LR hcc k hw0 hm hent hh
  subst LR
  refine am_size hP hS hz hK.2.1 (fun hsz => ?_)
  rw [List.map_append, List.map_cons]
  show W _ _ _ _ _ _ _ _ _ _ _ _ _ _ _ (F0 m pc ls (_ ++ .ref (am_ad g b) :: _))
  exact am_back X hP hz hS hl (va_runIN (As := vs.map (am_cv g)) (b := am_ad g b) (nL := M.2.2.1) (n := n) ⟨hx, hb, hml, hown, hts⟩ hm ⟨va_cnB n hts hw0 rfl rfl rfl (hK.2.2.2.2.2.2.1 _ hh) (hts _ LB.2.1) LB.2.2.2.1 LB.2.2.2.2, LN, hts _ LM⟩ ⟨am_blind g _ sh σ, fun U hU hW => ⟨rfl, by rw [hU]; exact hsz, by rw [hU]; exact hP, am_K_warm hS hU hW hK⟩⟩ rfl (by simpa using hn) hl.1 (by simp [List.map_reverse]) (lv_room (am_catsum g st hst)) hd hcc) k
end AMC
end
section
/-! ===== what is made: objects, arrays; a constructor's stores; copies; texts ===== -/
/-- a fresh row -/
def am_z (f : Nat → Nat → Int) (k : Nat) : Nat → Nat → Int := fun k' j => if k' = k then 0 else f k' j
theorem am_z_o {f : Nat → Nat → Int} {k k' : Nat} (h : k' ≠ k) : am_z f k k' = f k' := by funext j; simp [am_z, h]
theorem am_ws_push {g : am_G} {sh : am_Sh} {σ σ' : am_St} {q : Nat × Nat × List (Option Nat)} (h1 : ∀ k, k < sh.length → σ'.1 k = σ.1 k ∧ σ'.2 k = σ.2 k) :
    am_ws g (sh ++ [q]) σ' = am_ws g sh σ ++ [(am_n0 g + sh.length, am_ce g σ' sh.length q)] := by
  apply List.ext_getElem?
  intro i
  have hlen : (am_ws g sh σ).length = sh.length := by simp [am_ws]
  by_cases hi : i < sh.length
  · have e : sh[i]? = some sh[i] := List.getElem?_eq_getElem hi
    rw [List.getElem?_append_left (by omega), am_ws_at e, am_ws_at (q := sh[i]) (by rw [List.getElem?_append_left hi]; exact e), am_ce_o (h1 i hi).1 (h1 i hi).2]
  · by_cases h2 : i = sh.length
    · subst h2
      rw [am_ws_at (q := q) (by simp), List.getElem?_append_right (by omega), hlen]
      simp
    · rw [List.getElem?_eq_none (by simp [am_ws]; omega), List.getElem?_eq_none (by simp [hlen]; omega)]
/-- a new cell's address is the next one -/
theorem am_next {p : Program} {l : Launch} {e : Env} {R : Room} {s : State} {m : MethodId} {args : Array Value} {below : List Frame} {meth : Method} {c : Code} {H1 : Heap} {locs : List Loc} {cells slots : Nat} {Q : State → Prop} {gf : JFrame} {g : am_G} {sh : am_Sh} {σ : am_St} {q : Nat} {en : va_E}
    (hP : va_P (am_D g) am_cl (am_ws g sh σ ++ [(q, en)]) H1) (hD : va_D (am_A g) (am_ws g sh σ ++ [(q, en)])) (h0 : s.heap.size + cells = am_n0 g + sh.length + 1)
    (k : q = am_n0 g + sh.length → W p l e R s m args below meth c H1 locs cells slots Q gf) : W p l e R s m args below meth c H1 locs cells slots Q gf := by
  intro T hT X
  have h1 := X.heapSize
  rw [hT] at h1
  have hlen : (am_ws g sh σ).length = sh.length := by simp [am_ws]
  have hlast : (am_ws g sh σ ++ [(q, en)])[sh.length]? = some (q, en) := by rw [List.getElem?_append_right (by omega), hlen]; simp
  have h2 : q < H1.size := (hP _ _ hlast).lt
  have h3 : am_n0 g ≤ q := hD.2 _ _ hlast
  refine k ?_ T hT X
  by_cases h4 : q = am_n0 g + sh.length
  · exact h4
  · exfalso
    have h5 : q - am_n0 g < sh.length := by omega
    have e : sh[q - am_n0 g]? = some sh[q - am_n0 g] := List.getElem?_eq_getElem h5
    have h6 : (am_ws g sh σ ++ [(q, en)])[q - am_n0 g]? = some (am_n0 g + (q - am_n0 g), am_ce g σ (q - am_n0 g) sh[q - am_n0 g]) := by
      rw [List.getElem?_append_left (by omega)]
      exact am_ws_at e
    have h7 := hD.1 _ _ _ _ h6 hlast (by show am_n0 g + (q - am_n0 g) = q; omega)
    omega
theorem am_dflt : ∀ ci, ci < 12 → ∀ j, j < 51 → (match (am_TG.getD ci [])[j]? with | some t => decide (defaultValue (am_Y ci j) = (if t = 0 then .int 0 else if t = 1 then .long 0 else .null)) | none => true) = true := by decide +kernel
def am_NL (own : String) (idx ci : Nat) : Prop := ∃ (C : String) (T : u_T) (N : Nat), am_cl[ci]? = some (C, T, N) ∧ N ≤ 51 ∧ Cond.classLink own idx C ∈ am_tbl ∧ Cond.instantiable C N ∈ am_tbl ∧ Cond.initialized C ∈ am_tbl
section AMN
variable {x : am_Sc} {M : am_MT} {Po : Option am_AV → am_Sh → am_St → Prop} {cs : Nat × Nat} {sh : am_Sh} {σ : am_St} {pc : Nat} {lv : List (Option am_AV)} {st : List am_AV}
theorem V_new {idx ci : Nat} (N : Nat) (hd : decode (am_c M) pc = .ok (.new idx, 3)) (hf : am_NL M.1.cls idx ci) (hN : (am_TG.getD ci []).length = N) (hlen : Nat.blt sh.length 1000000 = true) (hc : (Nat.ble (cs.1 + 1) M.2.2.2.2.cells && Nat.ble (cs.2 + N) M.2.2.2.2.slots) = true)
    (kk : am_V x M Po (cs.1 + 1, cs.2 + N) (sh ++ [(ci, N, List.replicate N none)]) (am_z σ.1 sh.length, am_z σ.2 sh.length) (pc + 3) lv (Zr sh.length :: st)) : am_V x M Po cs sh σ pc lv st := by
  intro p l e s m args below meth c g X H locs ls hP hz hS hl
  obtain ⟨hx, hb, hret, hml, hown, hts, hK, hlk, hnm, hxs⟩ := id X
  obtain ⟨C, T, N', h1, h51, h2, h3, h4⟩ := hf
  obtain ⟨w1, w2, w3, w4, w5⟩ := am_cls h1
  have hNN : N' = N := w4.symm.trans hN
  subst hNN
  have hA : ∀ q, s.heap.size ≤ q → am_A g q := fun q h => Nat.le_trans hK.2.1 h
  have hl9 : sh.length < 1000000 := Nat.le_of_ble_eq_true hlen
  refine va_new (ci := ci) (fs := (am_TG.getD ci []).mapIdx fun j t => am_fv g (am_z σ.1 sh.length, am_z σ.2 sh.length) sh.length (List.replicate N' none) t j) hx hb hts w1 (am_Y ci) w2 hown (hts _ h2) (hts _ h3) (hts _ h4) hK.1 hP (am_ws_D g sh σ) hS hA h1 (fun j hj => ?_) (am_fitc hc).1 (am_fitc hc).2 hd (fun q H1 hP1 hD1 hS1 => ?_)
  · have h5 := am_dflt ci w5 j (by omega)
    have h6 : j < (am_TG.getD ci []).length := by omega
    obtain ⟨t, h7⟩ : ∃ t, (am_TG.getD ci [])[j]? = some t := ⟨_, List.getElem?_eq_getElem h6⟩
    rw [h7] at h5
    have h8 := of_decide_eq_true h5
    rw [h8]
    unfold vp_V
    show _ = (((am_TG.getD ci []).mapIdx _)[j]?).getD Value.null
    rw [List.getElem?_mapIdx, h7, Option.map_some, Option.getD_some]
    unfold am_fv
    have e1 : (List.replicate N' (none : Option Nat)).getD j none = none := by
      rw [List.getD_eq_getElem?_getD, List.getElem?_replicate]
      split <;> rfl
    rw [e1]
    simp [am_z, va_rf]
  · refine am_next hP1 hD1 (by omega) (fun hq => ?_)
    subst hq
    have hw := am_ws_push (g := g) (sh := sh) (σ := σ) (σ' := (am_z σ.1 sh.length, am_z σ.2 sh.length)) (q := (ci, N', List.replicate N' none)) (fun k hk => ⟨am_z_o (by omega), am_z_o (by omega)⟩)
    rw [am_ce_obj g _ sh.length ci N' _ w5] at hw
    rw [← hw] at hP1
    have k9 := kk p l e s m args below meth c g X H1 locs ls hP1 (by rw [List.length_append]; show s.heap.size + (cs.1 + 1) = _; simp; omega) hS1 hl
    have e9 : am_cv g (Zr sh.length) = .ref (am_n0 g + sh.length) := by show Value.ref (am_ad g sh.length) = _; unfold am_ad; rw [if_pos hl9]
    rw [List.map_cons, e9] at k9
    exact k9
/-- a new row: the kind t + 12 for t 0 (int), 1 (long), 2 (boolean) -/
theorem am_newa {n : Nat} {z : Int} {at' : ArrayType} {t : Nat} {ty : FieldType} {a0 : vp_A} (hd : decode (am_c M) pc = .ok (.newarray at', 2)) (hw : Cond.arrayClass (newarray.typeOf at') ∈ am_tbl) (hty : newarray.typeOf at' = ty) (hz0 : z = (n : Int)) (hn : n < 1000000) (ht : ∀ g, (am_tys g)[t]? = some (am_cy g t, ty)) (hRA : ∀ (U : State) (c1 c2 : ClassId), va_RA U c1 ty → va_RA U c2 ty → c1 = c2)
    (ha : ∀ cA : ClassId, vp_cell cA a0 = arrV cA n (fun _ => defaultValue ty)) (hce : ∀ g (σ : am_St) k, σ.1 k = (fun _ => 0) → σ.2 k = (fun _ => 0) → am_ce g σ k (12 + t, n, []) = .inl (am_cy g t, a0)) (hby : n * componentBytes ty ≤ 536870912)
    (hlen : Nat.blt sh.length 1000000 = true) (hc : (Nat.ble (cs.1 + 1) M.2.2.2.2.cells && Nat.ble (cs.2 + n) M.2.2.2.2.slots) = true)
    (kk : am_V x M Po (cs.1 + 1, cs.2 + n) (sh ++ [(12 + t, n, [])]) (am_z σ.1 sh.length, am_z σ.2 sh.length) (pc + 2) lv (Zr sh.length :: st)) : am_V x M Po cs sh σ pc lv (Zi z :: st) := by
  subst hz0
  intro p l e s m args below meth c g X H locs ls hP hz hS hl
  obtain ⟨hx, hb, hret, hml, hown, hts, hK, hlk, hnm, hxs⟩ := id X
  have hA : ∀ q, s.heap.size ≤ q → am_A g q := fun q h => Nat.le_trans hK.2.1 h
  have hl9 : sh.length < 1000000 := Nat.le_of_ble_eq_true hlen
  have hneg : ¬ Int32.ofInt (n : Int) < 0 := by
    rw [show (0 : Int32) = Int32.ofInt 0 from rfl, am_lt ⟨by omega, by omega⟩ (by decide)]
    omega
  refine va_newa (ty := ty) (a0 := a0) (N' := n) hx hb (hts _ hw) hty hK.1 hP (am_ws_D g sh σ) hS hA ha hneg (am_ix (by omega)) hby (am_fitc hc).1 (am_fitc hc).2 hd (fun q cA H1 hK1 hP1 hD1 hS1 => ?_)
  have e0 : cA = am_cy g t := by
    have h1 := (hK1.2 (am_tys g).length (cA, ty) (by simp)).2
    have h2 := (hK.1.2 t _ (ht g)).2
    exact hRA s _ _ h1 h2
  subst e0
  refine am_next hP1 hD1 (by omega) (fun hq => ?_)
  subst hq
  have hw := am_ws_push (g := g) (sh := sh) (σ := σ) (σ' := (am_z σ.1 sh.length, am_z σ.2 sh.length)) (q := (12 + t, n, [])) (fun k hk => ⟨am_z_o (by omega), am_z_o (by omega)⟩)
  rw [hce g _ sh.length (by funext j; simp [am_z]) (by funext j; simp [am_z])] at hw
  rw [← hw] at hP1
  have k9 := kk p l e s m args below meth c g X H1 locs ls hP1 (by rw [List.length_append]; show s.heap.size + (cs.1 + 1) = _; simp; omega) hS1 hl
  have e9 : am_cv g (Zr sh.length) = .ref (am_n0 g + sh.length) := by show Value.ref (am_ad g sh.length) = _; unfold am_ad; rw [if_pos hl9]
  rw [List.map_cons, e9] at k9
  exact k9
theorem am_RAeq {U : State} {c1 c2 : ClassId} {ty : FieldType} (hty : ty = .int ∨ ty = .long ∨ ty = .boolean ∨ ty = .array .int ∨ ty = .array .long) (h1 : va_RA U c1 ty) (h2 : va_RA U c2 ty) : c1 = c2 := by
  rcases hty with rfl | rfl | rfl | rfl | rfl <;> exact Option.some.inj (h1.symm.trans h2)
theorem V_newI {n : Nat} {z : Int} (hd : decode (am_c M) pc = .ok (.newarray .int, 2)) (hw : Cond.arrayClass .int ∈ am_tbl) (hz0 : z = (n : Int)) (hn : Nat.blt n 1000 = true) (hlen : Nat.blt sh.length 1000000 = true) (hc : (Nat.ble (cs.1 + 1) M.2.2.2.2.cells && Nat.ble (cs.2 + n) M.2.2.2.2.slots) = true)
    (kk : am_V x M Po (cs.1 + 1, cs.2 + n) (sh ++ [(12, n, [])]) (am_z σ.1 sh.length, am_z σ.2 sh.length) (pc + 2) lv (Zr sh.length :: st)) : am_V x M Po cs sh σ pc lv (Zi z :: st) := by
  have hn : n < 1000 := Nat.le_of_ble_eq_true hn
  exact am_newa (t := 0) (ty := .int) (a0 := (n, .inl (fun _ => 0))) hd hw rfl hz0 (by omega) (fun g => rfl) (fun U c1 c2 => am_RAeq (Or.inl rfl)) (fun cA => rfl) (fun g σ k h1 h2 => by simp [am_ce, h1]) (by show n * 4 ≤ _; omega) hlen hc kk
theorem V_newL {n : Nat} {z : Int} (hd : decode (am_c M) pc = .ok (.newarray .long, 2)) (hw : Cond.arrayClass .long ∈ am_tbl) (hz0 : z = (n : Int)) (hn : Nat.blt n 1000 = true) (hlen : Nat.blt sh.length 1000000 = true) (hc : (Nat.ble (cs.1 + 1) M.2.2.2.2.cells && Nat.ble (cs.2 + n) M.2.2.2.2.slots) = true)
    (kk : am_V x M Po (cs.1 + 1, cs.2 + n) (sh ++ [(13, n, [])]) (am_z σ.1 sh.length, am_z σ.2 sh.length) (pc + 2) lv (Zr sh.length :: st)) : am_V x M Po cs sh σ pc lv (Zi z :: st) := by
  have hn : n < 1000 := Nat.le_of_ble_eq_true hn
  exact am_newa (t := 1) (ty := .long) (a0 := (n, .inr (.inl (fun _ => 0)))) hd hw rfl hz0 (by omega) (fun g => rfl) (fun U c1 c2 => am_RAeq (Or.inr (Or.inl rfl))) (fun cA => rfl) (fun g σ k h1 h2 => by simp [am_ce, h2]) (by show n * 8 ≤ _; omega) hlen hc kk
theorem V_newZ {n : Nat} {z : Int} (hd : decode (am_c M) pc = .ok (.newarray .boolean, 2)) (hw : Cond.arrayClass .boolean ∈ am_tbl) (hz0 : z = (n : Int)) (hn : Nat.blt n 1000 = true) (hlen : Nat.blt sh.length 1000000 = true) (hc : (Nat.ble (cs.1 + 1) M.2.2.2.2.cells && Nat.ble (cs.2 + n) M.2.2.2.2.slots) = true)
    (kk : am_V x M Po (cs.1 + 1, cs.2 + n) (sh ++ [(14, n, [])]) (am_z σ.1 sh.length, am_z σ.2 sh.length) (pc + 2) lv (Zr sh.length :: st)) : am_V x M Po cs sh σ pc lv (Zi z :: st) := by
  have hn : n < 1000 := Nat.le_of_ble_eq_true hn
  exact am_newa (t := 2) (ty := .boolean) (a0 := (n, .inl (fun _ => 0))) hd hw rfl hz0 (by omega) (fun g => rfl) (fun U c1 c2 => am_RAeq (Or.inr (Or.inr (Or.inl rfl)))) (fun cA => rfl) (fun g σ k h1 h2 => by simp [am_ce, h1]) (by show n * 1 ≤ _; omega) hlen hc kk
/-- a constructor's store of a reference into a final field -/
theorem V_puta {idx ci j k n r : Nat} {rs : List (Option Nat)} (hd : decode (am_c M) pc = .ok (.putfield idx, 3)) (hf : am_FL M.1.cls idx ci j 2) (hfin : ∀ C T N, am_cl[ci]? = some (C, T, N) → (T j).2.2.2 = true ∧ (T j).1 = M.1.cls) (hin : M.1.name = "<init>") (hq : sh[k]? = some (ci, n, rs)) (hty : ∀ g, narrow (am_Y ci j) (am_cv g (Zr r)) = am_cv g (Zr r) ∧ fits (am_Y ci j) (am_cv g (Zr r)) = true) (hlen : (Nat.ble sh.length 1000000 && Nat.blt j rs.length) = true)
    (kk : am_V x M Po cs (sh.set k (ci, n, rs.set j (some r))) σ (pc + 3) lv st) : am_V x M Po cs sh σ pc lv (Zr r :: Zr k :: st) := by
  intro p l e s m args below meth c g X H locs ls hP hz hS hl
  obtain ⟨hx, hb, hret, hml, hown, hts, hK, hlk, hnm, hxs⟩ := id X
  obtain ⟨C, T, N, g1, g2, g3, g4⟩ := hf
  obtain ⟨w1, w2, w3, w4, w5⟩ := am_cls g1
  have hl1 := Nat.le_of_ble_eq_true (Bool.and_eq_true_iff.mp hlen).1
  have hl2 : j < rs.length := Nat.le_of_ble_eq_true (Bool.and_eq_true_iff.mp hlen).2
  have he := am_ws_at (g := g) (σ := σ) hq
  rw [am_ce_obj g σ k ci n rs w5] at he
  rw [List.map_cons, List.map_cons]
  show W _ _ _ _ _ _ _ _ _ _ _ _ _ _ _ (F0 m pc ls (am_cv g (Zr r) :: .ref (am_ad g k) :: _))
  rw [am_lift hq hl1]
  refine va_putF (ref := (T j).1) (v := am_cv g (Zr r)) (ty := am_Y ci j) hx hb hts w1 (am_Y ci) w2 w3 hown hK.1 hP (am_ws_D g sh σ) hS k he g1 j g2 (hts _ g3) (fun _ h9 => h9) (hfin C T N g1).1 (hnm.trans hin) (hfin C T N g1).2 (w2 j g2) (hty g).1 (hty g).2 (by rw [List.length_mapIdx, w4]; exact g2) hd (fun H1 locs1 hP1 hD1 hS1 => ?_)
  have hk : k < sh.length := (List.getElem?_eq_some_iff.mp hq).1
  have e9 : (am_ws g sh σ).set k (am_n0 g + k, .inr (ci, ((am_TG.getD ci []).mapIdx fun j t => am_fv g σ k rs t j).set j (am_cv g (Zr r)))) = am_ws g (sh.set k (ci, n, rs.set j (some r))) σ := by
    apply List.ext_getElem?
    intro i
    rw [List.getElem?_set]
    by_cases e1 : k = i
    · subst e1
      rw [if_pos rfl, if_pos (by simp [am_ws]; exact hk), am_ws_at (q := (ci, n, rs.set j (some r))) (by rw [List.getElem?_set, if_pos rfl, if_pos hk]), am_ce_obj g σ k ci n _ w5]
      congr 4
      apply List.ext_getElem?
      intro i
      rw [List.getElem?_set]
      by_cases e2 : j = i
      · subst e2
        have hl := (List.getElem?_eq_some_iff.mp g4).1
        rw [if_pos rfl, if_pos (by simpa using hl), List.getElem?_mapIdx, g4, Option.map_some]
        unfold am_fv
        rw [List.getD_eq_getElem?_getD, List.getElem?_set, if_pos rfl, if_pos hl2]
        rfl
      · rw [if_neg e2, List.getElem?_mapIdx, List.getElem?_mapIdx]
        cases (am_TG.getD ci [])[i]? with
        | none => rfl
        | some t' =>
          rw [Option.map_some, Option.map_some]
          unfold am_fv
          rw [List.getD_eq_getElem?_getD, List.getD_eq_getElem?_getD, List.getElem?_set, if_neg e2]
    · rw [if_neg e1]
      cases hi : sh[i]? with
      | none => simp [am_ws, hi, e1]
      | some q' => rw [am_ws_at hi, am_ws_at (q := q') (by rw [List.getElem?_set, if_neg e1]; exact hi)]
  rw [e9] at hP1
  exact kk p l e s m args below meth c g X H1 locs1 ls hP1 (by rw [List.length_set]; exact hz) hS1 hl
/-- Object's constructor -/
theorem V_obj {idx k : Nat} (hd : decode (am_c M) pc = .ok (.invokespecial idx, 3)) (hw : Cond.methodLink M.1.cls idx objectInit ∈ am_tbl ∧ Cond.instanceMethod objectInit ∈ am_tbl ∧ Cond.code objectInit ⟨#[0xb1]⟩ 1 none ∈ am_tbl) (hr : (Nat.ble 1 M.2.2.2.2.frames && Nat.ble 20 M.2.2.2.2.locals) = true) (hst : Nat.ble st.length 4 = true)
    (kk : am_V x M Po cs sh σ (pc + 3) lv st) : am_V x M Po cs sh σ pc lv (Zr k :: st) := by
  intro p l e s m args below meth c g X H locs ls hP hz hS hl
  obtain ⟨hx, hb, hret, hml, hown, hts, hK, hlk, hnm, hxs⟩ := id X
  rw [List.map_cons]
  have h8 := am_catsum g st hst
  refine W.objInit (g := F0 m pc ls (am_cv g (Zr k) :: st.map (am_cv g))) (rest := st.map (am_cv g)) hx hb hown (hts _ hw.1) (hts _ hw.2.1) (hts _ hw.2.2) rfl (hl.1.trans hml.symm) rfl hd (am_fitc hr).1 ?_ (kk p l e s m args below meth c g X H locs ls hP hz hS hl)
  have h9 := (am_fitc hr).2
  show 2 * 0 + _ + 12 ≤ _
  omega
end AMN
end
section
/-! ===== rows of rows; copies; texts; weaker ends; fewer locals ===== -/
theorem am_outer (c : ClassId) (N h0 : Nat) : ∀ i : Nat, Jvm.Free.Multi.outerC c N h0 i = arrV c N (fun j => va_rf (if j < i then some (h0 + 1 + j) else none))
  | 0 => by
    show ({ cls := c, slots := Array.replicate N .null, vm := .none } : Cell) = _
    rw [arrV_new]
    refine congrArg (arrV c N) (funext fun j => ?_)
    simp [va_rf]
  | i + 1 => by
    show (Jvm.Free.Multi.outerC c N h0 i).setSlot i (.ref (h0 + 1 + i)) = _
    rw [am_outer c N h0 i, arrV_store]
    refine congrArg (arrV c N) (funext fun j => ?_)
    by_cases e : j = i
    · subst e
      simp [updV, va_rf]
    · by_cases h : j < i
      · simp [updV, e, h, Nat.lt_succ_of_lt h]
      · simp [updV, e, h, show ¬ j < i + 1 by omega]
/-- all rows from k on fresh -/
def am_zz (f : Nat → Nat → Int) (k : Nat) : Nat → Nat → Int := fun k' j => if k ≤ k' then 0 else f k' j
section AMM
variable {x : am_Sc} {M : am_MT} {Po Po' : Option am_AV → am_Sh → am_St → Prop} {cs : Nat × Nat} {sh : am_Sh} {σ : am_St} {pc : Nat} {lv : List (Option am_AV)} {st : List am_AV}
/-- t 0: int[n][k], t 1: long[n][k] -/
theorem am_mna {idx n k t : Nat} {ty : FieldType} (hd : decode (am_c M) pc = .ok (.multianewarray idx 2, 4)) (hcl : Cond.classLink M.1.cls idx ("[" ++ (FieldType.array ty).toString) ∈ am_tbl) (hac : Cond.arrayClass ty ∈ am_tbl) (hty : ty ∈ [FieldType.int, FieldType.long]) (hn : n < 1000) (hk : k < 1000)
    (ht0 : ∀ g, (am_tys g)[t]? = some (am_cy g t, ty)) (ht3 : ∀ g, (am_tys g)[3 + t]? = some (am_cy g (3 + t), .array ty)) (hdf : fits ty (defaultValue ty) = true) (hdd : (defaultValue ty).isDefault = true) (hcb : componentBytes ty ≤ 8) (htt : t ≤ 1)
    (hin : ∀ g (σ' : am_St) k', σ'.1 k' = (fun _ => 0) → σ'.2 k' = (fun _ => 0) → ∃ a0, am_ce g σ' k' (12 + t, k, []) = .inl (am_cy g t, a0) ∧ vp_cell (am_cy g t) a0 = Jvm.Free.Multi.innerC (am_cy g t) k (defaultValue ty))
    (hlen : sh.length + n + 1 < 1000000) (hc : cs.1 + (1 + n) ≤ M.2.2.2.2.cells ∧ cs.2 + (n + n * k) ≤ M.2.2.2.2.slots)
    (kk : am_V x M Po (cs.1 + 1 + n, cs.2 + n + n * k) (sh ++ ((15 + t, n, (List.range n).map fun i => some (sh.length + 1 + i)) :: List.replicate n (12 + t, k, []))) (am_zz σ.1 sh.length, am_zz σ.2 sh.length) (pc + 4) lv (Zr sh.length :: st)) : am_V x M Po cs sh σ pc lv (Zi (k : Int) :: Zi (n : Int) :: st) := by
  intro p l e s m args below meth c g X H locs ls hP hz hS hl
  obtain ⟨hx, hb, hret, hml, hown, hts, hK, hlk, hnm, hxs⟩ := id X
  refine am_size hP hS hz hK.2.1 (fun hsz => ?_)
  intro T hT Xs
  have hneg : ∀ i : Nat, i < 1000 → ¬ Int32.ofInt (i : Int) < 0 := fun i hi => by
    rw [show (0 : Int32) = Int32.ofInt 0 from rfl, am_lt ⟨by omega, by omega⟩ (by decide)]
    omega
  have en := am_ix (i := n) (by omega)
  have ek := am_ix (i := k) (by omega)
  have hkb : k * componentBytes ty ≤ 536870912 := Nat.le_trans (Nat.mul_le_mul (Nat.le_of_lt hk) hcb) (by omega)
  obtain ⟨vm₁, cA, comp, -, fA, fC, hO, -, X', step⟩ := Xs.multianewarray2F hx hown (hts _ hcl) (hK.2.2.2.2.2.2.2.1 ty hty) (hts _ hac) (g := F0 m pc ls (.int (Int32.ofInt (k : Int)) :: .int (Int32.ofInt (n : Int)) :: st.map (am_cv g))) rfl (by rw [hb]; exact hd) rfl (hneg n hn) (hneg k hk) (by rw [en]; omega) (by rw [ek]; exact hkb) (by rw [ek]; omega) hdf hdd (by rw [en]; exact hc.1) (by rw [en, ek]; exact hc.2)
  rw [en, ek] at X' step
  have e1 : cA = am_cy g (3 + t) := by
    have h2 := (hK.1.2 (3 + t) _ (ht3 g)).2
    exact Option.some.inj (fA.symm.trans h2)
  have e2 : comp = am_cy g t := by
    have h2 := (hK.1.2 t _ (ht0 g)).2
    have h3 : s.vm.findClass ("[" ++ ty.toString) = some (am_cy g t) := by
      simp only [List.mem_cons, List.not_mem_nil, or_false] at hty
      rcases hty with rfl | rfl <;> exact h2
    exact Option.some.inj (fC.symm.trans h3)
  subst e1; subst e2
  generalize hF : Jvm.Free.Multi.fill (T.setVm vm₁) (am_cy g (3 + t)) (am_cy g t) n k (defaultValue ty) n = F at X' step
  have hTh : (T.setVm vm₁).heap = H := hT
  obtain ⟨f1, f2, -, -⟩ := Jvm.Free.Multi.fill_facts (T.setVm vm₁) (am_cy g (3 + t)) (am_cy g t) n k (defaultValue ty) n
  rw [hF, hTh] at f1 f2
  have hold : ∀ x : Nat, x < H.size → F.heap[x]? = H[x]? := fun x hx => by
    have := Jvm.Free.Multi.fill_old (T.setVm vm₁) (am_cy g (3 + t)) (am_cy g t) n k (defaultValue ty) (a := x) (by rw [hTh]; exact hx) n
    rw [hF, hTh] at this
    exact this
  have hrow : ∀ j : Nat, j < n → F.heap[H.size + 1 + j]? = some (Jvm.Free.Multi.innerC (am_cy g t) k (defaultValue ty)) := fun j hj => by
    have := Jvm.Free.Multi.fill_inner (T.setVm vm₁) (am_cy g (3 + t)) (am_cy g t) n k (defaultValue ty) n j hj
    rw [hF, hTh] at this
    exact this
  rw [am_outer] at f2
  have hP1 : va_P (am_D g) am_cl (am_ws g (sh ++ ((15 + t, n, (List.range n).map fun i => some (sh.length + 1 + i)) :: List.replicate n (12 + t, k, []))) (am_zz σ.1 sh.length, am_zz σ.2 sh.length)) F.heap := by
    intro i q hq
    obtain ⟨q', h1, rfl⟩ := am_ws_inv hq
    by_cases hi : i < sh.length
    · rw [List.getElem?_append_left hi] at h1
      rw [am_ce_o (σ := σ) (σ' := (am_zz σ.1 sh.length, am_zz σ.2 sh.length)) (by funext j; simp [am_zz, show ¬ sh.length ≤ i by omega]) (by funext j; simp [am_zz, show ¬ sh.length ≤ i by omega])]
      exact (hP i _ (am_ws_at h1)).kept (hold _ (by show am_n0 g + i < H.size; omega))
    · rw [List.getElem?_append_right (by omega)] at h1
      by_cases h0 : i = sh.length
      · subst h0
        rw [Nat.sub_self, List.getElem?_cons_zero] at h1
        cases h1
        have e5 : am_ce g (am_zz σ.1 sh.length, am_zz σ.2 sh.length) sh.length (15 + t, n, (List.range n).map fun i => some (sh.length + 1 + i)) = .inl (am_cy g (3 + t), n, .inr (.inr (.inr (.inr (am_rr g ((List.range n).map fun i => some (sh.length + 1 + i))))))) := by
          rcases (show t = 0 ∨ t = 1 by omega) with rfl | rfl <;> simp [am_ce]
        rw [e5]
        show F.heap[am_n0 g + sh.length]? = some (vp_cell _ _)
        rw [← hsz, f2, vp_cell_q]
        congr 2
        funext j
        congr 1
        unfold am_rr
        rw [List.getD_eq_getElem?_getD, List.getElem?_map]
        by_cases hj : j < n
        · rw [List.getElem?_range hj, if_pos hj]
          show _ = some (am_ad g (sh.length + 1 + j))
          unfold am_ad
          rw [if_pos (by omega)]
          congr 1
          show _ = am_n0 g + _
          omega
        · rw [List.getElem?_eq_none (by simp; omega), if_neg hj]
          rfl
      · obtain ⟨j, rfl⟩ : ∃ j, i = sh.length + 1 + j := ⟨i - sh.length - 1, by omega⟩
        rw [show sh.length + 1 + j - sh.length = j + 1 by omega, List.getElem?_cons_succ, List.getElem?_replicate] at h1
        split at h1
        · rename_i hj
          cases h1
          obtain ⟨a0, h5, h6⟩ := hin g (am_zz σ.1 sh.length, am_zz σ.2 sh.length) (sh.length + 1 + j) (by funext i; simp [am_zz, show sh.length ≤ sh.length + 1 + j by omega]) (by funext i; simp [am_zz, show sh.length ≤ sh.length + 1 + j by omega])
          rw [h5]
          show F.heap[am_n0 g + (sh.length + 1 + j)]? = some (vp_cell _ _)
          rw [h6, ← hrow j hj]
          congr 1
          omega
        · cases h1
  have hS1 : va_S (am_A g) s.heap F.heap locs := ⟨Nat.le_trans hS.1 (by omega), fun q h1 h2 => (hold q (Nat.lt_of_lt_of_le h1 hS.1)).trans (hS.2.1 q h1 h2), hS.2.2⟩
  have k9 := kk p l e s m args below meth c g X F.heap locs ls hP1 (by simp; omega) hS1 hl
  have e9 : am_cv g (Zr sh.length) = .ref H.size := by
    show Value.ref (am_ad g sh.length) = _
    unfold am_ad
    rw [if_pos (by omega), hsz]
  rw [List.map_cons, e9] at k9
  obtain ⟨t9, a1, b1⟩ := k9 F rfl X'
  refine ⟨t9, step t9 ?_, b1⟩
  rw [hT]
  exact a1
theorem V_mnaI {idx n k : Nat} {zn zk : Int} (hd : decode (am_c M) pc = .ok (.multianewarray idx 2, 4)) (hcl : Cond.classLink M.1.cls idx "[[I" ∈ am_tbl) (hac : Cond.arrayClass .int ∈ am_tbl) (hzn : zn = (n : Int)) (hzk : zk = (k : Int)) (hnk : (Nat.blt n 1000 && Nat.blt k 1000) = true)
    (hlen : Nat.blt (sh.length + n + 1) 1000000 = true) (hc : (Nat.ble (cs.1 + (1 + n)) M.2.2.2.2.cells && Nat.ble (cs.2 + (n + n * k)) M.2.2.2.2.slots) = true)
    (kk : am_V x M Po (cs.1 + 1 + n, cs.2 + n + n * k) (sh ++ ((15, n, (List.range n).map fun i => some (sh.length + 1 + i)) :: List.replicate n (12, k, []))) (am_zz σ.1 sh.length, am_zz σ.2 sh.length) (pc + 4) lv (Zr sh.length :: st)) : am_V x M Po cs sh σ pc lv (Zi zk :: Zi zn :: st) := by
  subst hzn; subst hzk
  exact am_mna (t := 0) (ty := .int) hd hcl hac (by simp) (Nat.le_of_ble_eq_true (Bool.and_eq_true_iff.mp hnk).1) (Nat.le_of_ble_eq_true (Bool.and_eq_true_iff.mp hnk).2) (fun g => rfl) (fun g => rfl) rfl rfl (by decide) (by omega)
    (fun g σ' k' h1 h2 => ⟨(k, .inl (fun _ => 0)), by simp [am_ce, h1], by rw [vp_cell_i]; show _ = ({ cls := _, slots := Array.replicate k (.int 0), vm := .none } : Cell); rw [arrV_new]⟩) (Nat.le_of_ble_eq_true hlen) (am_fitc hc) kk
theorem V_mnaL {idx n k : Nat} {zn zk : Int} (hd : decode (am_c M) pc = .ok (.multianewarray idx 2, 4)) (hcl : Cond.classLink M.1.cls idx "[[J" ∈ am_tbl) (hac : Cond.arrayClass .long ∈ am_tbl) (hzn : zn = (n : Int)) (hzk : zk = (k : Int)) (hnk : (Nat.blt n 1000 && Nat.blt k 1000) = true)
    (hlen : Nat.blt (sh.length + n + 1) 1000000 = true) (hc : (Nat.ble (cs.1 + (1 + n)) M.2.2.2.2.cells && Nat.ble (cs.2 + (n + n * k)) M.2.2.2.2.slots) = true)
    (kk : am_V x M Po (cs.1 + 1 + n, cs.2 + n + n * k) (sh ++ ((16, n, (List.range n).map fun i => some (sh.length + 1 + i)) :: List.replicate n (13, k, []))) (am_zz σ.1 sh.length, am_zz σ.2 sh.length) (pc + 4) lv (Zr sh.length :: st)) : am_V x M Po cs sh σ pc lv (Zi zk :: Zi zn :: st) := by
  subst hzn; subst hzk
  exact am_mna (t := 1) (ty := .long) hd hcl hac (by simp) (Nat.le_of_ble_eq_true (Bool.and_eq_true_iff.mp hnk).1) (Nat.le_of_ble_eq_true (Bool.and_eq_true_iff.mp hnk).2) (fun g => rfl) (fun g => rfl) rfl rfl (by decide) (by omega)
    (fun g σ' k' h1 h2 => ⟨(k, .inr (.inl (fun _ => 0))), by simp [am_ce, h2], by rw [vp_cell_l]; show _ = ({ cls := _, slots := Array.replicate k (.long 0), vm := .none } : Cell); rw [arrV_new]⟩) (Nat.le_of_ble_eq_true hlen) (am_fitc hc) kk
/-! copies, from the first place on -/
def am_cp (f : Nat → Nat → Int) (k0 k1 n : Nat) : Nat → Nat → Int := fun k j => if k = k1 then (if j < n then f k0 j else f k1 j) else f k j
def am_AC (M : am_MT) (idx : Nat) : Prop := Cond.methodLink M.1.cls idx arraycopyName ∈ am_tbl ∧ Cond.native arraycopyName ∈ am_tbl ∧ Cond.static arraycopyName ∈ am_tbl ∧ Cond.initialized "java/lang/System" ∈ am_tbl ∧ 1 ≤ M.2.2.2.2.frames ∧ 40 ≤ M.2.2.2.2.locals
theorem V_cpyI {idx k0 k1 n0 n1 n : Nat} {rs0 rs1 : List (Option Nat)} {zn : Int} (hd : decode (am_c M) pc = .ok (.invokestatic idx, 3)) (hw : am_AC M idx) (h0 : sh[k0]? = some (12, n0, rs0)) (h1 : sh[k1]? = some (12, n1, rs1)) (hzn : zn = (n : Int)) (hn : (Nat.ble n n0 && Nat.ble n n1) = true) (hlen : (Nat.ble sh.length 1000000 && Nat.blt n 1000) = true) (hst : Nat.ble st.length 4 = true)
    (kk : am_V x M Po cs sh (am_cp σ.1 k0 k1 n, σ.2) (pc + 3) lv st) : am_V x M Po cs sh σ pc lv (Zi zn :: Zi 0 :: Zr k1 :: Zi 0 :: Zr k0 :: st) := by
  subst hzn
  intro p l e s m args below meth c g X H locs ls hP hz hS hl
  obtain ⟨hx, hb, hret, hml, hown, hts, hK, hlk, hnm, hxs⟩ := id X
  have hl1 := Nat.le_of_ble_eq_true (Bool.and_eq_true_iff.mp hlen).1
  have hl2 : n < 1000 := Nat.le_of_ble_eq_true (Bool.and_eq_true_iff.mp hlen).2
  have he0 : (am_ws g sh σ)[k0]? = some (am_n0 g + k0, .inl (am_cy g 0, n0, .inl (fun j => Int32.ofInt (σ.1 k0 j)))) := am_ws_at h0
  have he1 : (am_ws g sh σ)[k1]? = some (am_n0 g + k1, .inl (am_cy g 0, n1, .inl (fun j => Int32.ofInt (σ.1 k1 j)))) := am_ws_at h1
  have h8 := am_catsum g st hst
  simp only [List.map_cons]
  show W _ _ _ _ _ _ _ _ _ _ _ _ _ _ _ (F0 m pc ls (.int (Int32.ofInt (n : Int)) :: .int (Int32.ofInt 0) :: .ref (am_ad g k1) :: .int (Int32.ofInt 0) :: .ref (am_ad g k0) :: _))
  rw [am_lift h0 hl1, am_lift h1 hl1]
  have en := am_ix (i := n) (by omega)
  have e0 : (Int32.ofInt 0).toNatClampNeg = 0 := rfl
  refine va_copyi hx hb (hml.trans hl.1.symm) hown (hts _ hw.1) (hts _ hw.2.1) (hts _ hw.2.2.1) (hts _ hw.2.2.2.1) hK.1 hP (am_ws_D g sh σ) hS k0 k1 0 0 he0 he1 rfl rfl rfl (by decide) (by decide) ?_ (by rw [en, e0]; have := (am_fitc hn).1; omega) (by rw [en, e0]; have := (am_fitc hn).2; omega) (fun i hi => rfl) hw.2.2.2.2.1 ?_ hd (fun H1 locs1 hP1 hD1 hS1 => ?_)
  · rw [show (0 : Int32) = Int32.ofInt 0 from rfl, am_lt ⟨by omega, by omega⟩ (by decide)]
    omega
  · have := hw.2.2.2.2.2
    have e3 : nativeFrameWords "java/lang/System" "arraycopy" 5 = 7 := by decide
    omega
  · rw [en, e0] at hP1
    have e4 : am_ce g (am_cp σ.1 k0 k1 n, σ.2) k1 (12, n1, rs1) = .inl (am_cy g 0, n1, .inl (va_cpy (fun j => Int32.ofInt (σ.1 k0 j)) (fun j => Int32.ofInt (σ.1 k1 j)) 0 0 n)) := by
      show Sum.inl (am_cy g 0, n1, Sum.inl (fun j => Int32.ofInt (am_cp σ.1 k0 k1 n k1 j))) = _
      congr 4
      funext j
      by_cases hj : j < n <;> simp [am_cp, va_cpy, hj]
    have e5 := am_ws_set (g := g) (σ := σ) (σ' := (am_cp σ.1 k0 k1 n, σ.2)) h1 (fun k' q' hk hq => am_ce_o (σ := σ) (σ' := (am_cp σ.1 k0 k1 n, σ.2)) (by funext j; simp [am_cp, hk]) rfl q')
    rw [e4] at e5
    rw [e5] at hP1
    exact kk p l e s m args below meth c g X H1 locs1 ls hP1 hz hS1 hl
theorem V_cpyL {idx k0 k1 n0 n1 n : Nat} {rs0 rs1 : List (Option Nat)} {zn : Int} (hd : decode (am_c M) pc = .ok (.invokestatic idx, 3)) (hw : am_AC M idx) (h0 : sh[k0]? = some (13, n0, rs0)) (h1 : sh[k1]? = some (13, n1, rs1)) (hzn : zn = (n : Int)) (hn : (Nat.ble n n0 && Nat.ble n n1) = true) (hlen : (Nat.ble sh.length 1000000 && Nat.blt n 1000) = true) (hst : Nat.ble st.length 4 = true)
    (kk : am_V x M Po cs sh (σ.1, am_cp σ.2 k0 k1 n) (pc + 3) lv st) : am_V x M Po cs sh σ pc lv (Zi zn :: Zi 0 :: Zr k1 :: Zi 0 :: Zr k0 :: st) := by
  subst hzn
  intro p l e s m args below meth c g X H locs ls hP hz hS hl
  obtain ⟨hx, hb, hret, hml, hown, hts, hK, hlk, hnm, hxs⟩ := id X
  have hl1 := Nat.le_of_ble_eq_true (Bool.and_eq_true_iff.mp hlen).1
  have hl2 : n < 1000 := Nat.le_of_ble_eq_true (Bool.and_eq_true_iff.mp hlen).2
  have he0 : (am_ws g sh σ)[k0]? = some (am_n0 g + k0, .inl (am_cy g 1, n0, .inr (.inl (fun j => Int64.ofInt (σ.2 k0 j))))) := am_ws_at h0
  have he1 : (am_ws g sh σ)[k1]? = some (am_n0 g + k1, .inl (am_cy g 1, n1, .inr (.inl (fun j => Int64.ofInt (σ.2 k1 j))))) := am_ws_at h1
  have h8 := am_catsum g st hst
  simp only [List.map_cons]
  show W _ _ _ _ _ _ _ _ _ _ _ _ _ _ _ (F0 m pc ls (.int (Int32.ofInt (n : Int)) :: .int (Int32.ofInt 0) :: .ref (am_ad g k1) :: .int (Int32.ofInt 0) :: .ref (am_ad g k0) :: _))
  rw [am_lift h0 hl1, am_lift h1 hl1]
  have en := am_ix (i := n) (by omega)
  have e0 : (Int32.ofInt 0).toNatClampNeg = 0 := rfl
  refine va_copyl hx hb (hml.trans hl.1.symm) hown (hts _ hw.1) (hts _ hw.2.1) (hts _ hw.2.2.1) (hts _ hw.2.2.2.1) hK.1 hP (am_ws_D g sh σ) hS k0 k1 1 1 he0 he1 rfl rfl rfl (by decide) (by decide) ?_ (by rw [en, e0]; have := (am_fitc hn).1; omega) (by rw [en, e0]; have := (am_fitc hn).2; omega) (fun i hi => rfl) hw.2.2.2.2.1 ?_ hd (fun H1 locs1 hP1 hD1 hS1 => ?_)
  · rw [show (0 : Int32) = Int32.ofInt 0 from rfl, am_lt ⟨by omega, by omega⟩ (by decide)]
    omega
  · have := hw.2.2.2.2.2
    have e3 : nativeFrameWords "java/lang/System" "arraycopy" 5 = 7 := by decide
    omega
  · rw [en, e0] at hP1
    have e4 : am_ce g (σ.1, am_cp σ.2 k0 k1 n) k1 (13, n1, rs1) = .inl (am_cy g 1, n1, .inr (.inl (va_cpy (fun j => Int64.ofInt (σ.2 k0 j)) (fun j => Int64.ofInt (σ.2 k1 j)) 0 0 n))) := by
      show Sum.inl (am_cy g 1, n1, Sum.inr (Sum.inl (fun j => Int64.ofInt (am_cp σ.2 k0 k1 n k1 j)))) = _
      congr 5
      funext j
      by_cases hj : j < n <;> simp [am_cp, va_cpy, hj]
    have e5 := am_ws_set (g := g) (σ := σ) (σ' := (σ.1, am_cp σ.2 k0 k1 n)) h1 (fun k' q' hk hq => am_ce_o (σ := σ) (σ' := (σ.1, am_cp σ.2 k0 k1 n)) rfl (by funext j; simp [am_cp, hk]) q')
    rw [e4] at e5
    rw [e5] at hP1
    exact kk p l e s m args below meth c g X H1 locs1 ls hP1 hz hS1 hl
/-- a weaker end -/
theorem am_mono (K : am_V x M Po cs sh σ pc lv st) (h : ∀ r s t, Po r s t → Po' r s t) : am_V x M Po' cs sh σ pc lv st := by
  intro p l e s m args below meth c g X H locs ls hP hz hS hl T hT XT
  obtain ⟨t, a, o, b1, b2, ⟨⟨r, sh', σ', q1, q2, q3⟩, b4⟩, b5⟩ := K p l e s m args below meth c g X H locs ls hP hz hS hl T hT XT
  exact ⟨t, a, o, b1, b2, ⟨⟨r, sh', σ', q1, h _ _ _ q2, q3⟩, b4⟩, b5⟩
/-- a local is forgotten -/
theorem V_drop (i : Nat) (K : am_V x M Po cs sh σ pc (lv.set i none) st) : am_V x M Po cs sh σ pc lv st := by
  intro p l e s m args below meth c g X H locs ls hP hz hS hl
  refine K p l e s m args below meth c g X H locs ls hP hz hS ⟨hl.1, hl.2.1, by rw [List.length_set]; exact hl.2.2.1, fun j v hj => ?_⟩
  rw [List.getElem?_set] at hj
  by_cases e1 : i = j
  · rw [if_pos e1] at hj
    split at hj <;> cases hj
  · rw [if_neg e1] at hj
    exact hl.2.2.2 j v hj
/-! texts: text i is 1000001 + i, its bytes 1000008 + i -/
theorem V_ldcS {n i : Nat} {tx : String} (hd : decode (am_c M) pc = .ok (.ldc n, 2)) (hm : (n, tx, i) ∈ am_txt) (hC : M.1.cls = "ShakePictures$Script") (kk : am_V x M Po cs sh σ (pc + 2) lv (Zr (1000001 + i) :: st)) : am_V x M Po cs sh σ pc lv st := by
  intro p l e s m args below meth c g X H locs ls hP hz hS hl
  obtain ⟨hx, hb, hret, hml, hown, hts, hK, hlk, hnm, hxs⟩ := id X
  have k9 := kk p l e s m args below meth c g X H locs ls hP hz hS hl
  have e9 : am_cv g (Zr (1000001 + i)) = .ref (g.2.1 (i + 1)) := by
    show Value.ref (am_ad g (1000001 + i)) = _
    unfold am_ad
    rw [if_neg (by omega), show 1000001 + i - 1000000 = i + 1 by omega]
  rw [List.map_cons, e9] at k9
  rw [hC] at hown
  exact va_ldcS hx hb hown (hK.2.2.2.1 _ hm) hd k9
theorem V_strv {idx i : Nat} (hd : decode (am_c M) pc = .ok (.getfield idx, 3)) (hw : Cond.fieldLink M.1.cls idx "java/lang/String" "value" "[B" ∈ am_tbl) (hi : i < 7) (kk : am_V x M Po cs sh σ (pc + 3) lv (Zr (1000008 + i) :: st)) : am_V x M Po cs sh σ pc lv (Zr (1000001 + i) :: st) := by
  intro p l e s m args below meth c g X H locs ls hP hz hS hl
  obtain ⟨hx, hb, hret, hml, hown, hts, hK, hlk, hnm, hxs⟩ := id X
  have k9 := kk p l e s m args below meth c g X H locs ls hP hz hS hl
  have e9 : am_cv g (Zr (1000001 + i)) = .ref (g.2.1 (i + 1)) := by
    show Value.ref (am_ad g (1000001 + i)) = _
    unfold am_ad
    rw [if_neg (by omega), show 1000001 + i - 1000000 = i + 1 by omega]
  have e8 : am_cv g (Zr (1000008 + i)) = .ref (g.2.1 (i + 8)) := by
    show Value.ref (am_ad g (1000008 + i)) = _
    unfold am_ad
    rw [if_neg (by omega), show 1000008 + i - 1000000 = i + 8 by omega]
  rw [List.map_cons, e8] at k9
  rw [List.map_cons, e9]
  exact vk_getf hx hb (hK.2.2.1.1 i hi).2.2.1 hS hown (hts _ hw) (fun _ h => h) hd k9
theorem V_strc {idx i : Nat} (hd : decode (am_c M) pc = .ok (.getfield idx, 3)) (hw : Cond.fieldLink M.1.cls idx "java/lang/String" "coder" "B" ∈ am_tbl) (hi : i < 7) (kk : am_V x M Po cs sh σ (pc + 3) lv (Zi 0 :: st)) : am_V x M Po cs sh σ pc lv (Zr (1000001 + i) :: st) := by
  intro p l e s m args below meth c g X H locs ls hP hz hS hl
  obtain ⟨hx, hb, hret, hml, hown, hts, hK, hlk, hnm, hxs⟩ := id X
  have e9 : am_cv g (Zr (1000001 + i)) = .ref (g.2.1 (i + 1)) := by
    show Value.ref (am_ad g (1000001 + i)) = _
    unfold am_ad
    rw [if_neg (by omega), show 1000001 + i - 1000000 = i + 1 by omega]
  rw [List.map_cons, e9]
  exact vk_getf hx hb (hK.2.2.1.1 i hi).2.1 hS hown (hts _ hw) (fun _ h => h) hd (kk p l e s m args below meth c g X H locs ls hP hz hS hl)
theorem V_tlen {i : Nat} (hd : decode (am_c M) pc = .ok (.arraylength, 1)) (hi : i < 7) (kk : am_V x M Po cs sh σ (pc + 1) lv (Zi ((am_len.getD i 0 : Nat) : Int) :: st)) : am_V x M Po cs sh σ pc lv (Zr (1000008 + i) :: st) := by
  intro p l e s m args below meth c g X H locs ls hP hz hS hl
  obtain ⟨hx, hb, hret, hml, hown, hts, hK, hlk, hnm, hxs⟩ := id X
  have e8 : am_cv g (Zr (1000008 + i)) = .ref (g.2.1 (i + 8)) := by
    show Value.ref (am_ad g (1000008 + i)) = _
    unfold am_ad
    rw [if_neg (by omega), show 1000008 + i - 1000000 = i + 8 by omega]
  rw [List.map_cons, e8]
  exact va_tlen hx hb (hK.2.2.1.1 i hi).2.2.2 hS rfl hd (kk p l e s m args below meth c g X H locs ls hP hz hS hl)
theorem V_tb {i j : Nat} {z b : Int} (hd : decode (am_c M) pc = .ok (.baload, 1)) (hi : i < 7) (hz0 : z = (j : Int)) (hj : j < am_len.getD i 0) (hv : (am_byt.getD i []).getD j 0 = Int32.ofInt b) (kk : am_V x M Po cs sh σ (pc + 1) lv (Zi b :: st)) : am_V x M Po cs sh σ pc lv (Zi z :: Zr (1000008 + i) :: st) := by
  subst hz0
  intro p l e s m args below meth c g X H locs ls hP hz hS hl
  obtain ⟨hx, hb, hret, hml, hown, hts, hK, hlk, hnm, hxs⟩ := id X
  have e8 : am_cv g (Zr (1000008 + i)) = .ref (g.2.1 (i + 8)) := by
    show Value.ref (am_ad g (1000008 + i)) = _
    unfold am_ad
    rw [if_neg (by omega), show 1000008 + i - 1000000 = i + 8 by omega]
  have hlt : ∀ i, i < 7 → am_len.getD i 0 < 10 := by decide
  have h9 := hlt i hi
  rw [List.map_cons, List.map_cons, e8]
  exact va_tb hx hb (hK.2.2.1.1 i hi).2.2.2 hS (am_inb hj (by omega)) (v := .int (Int32.ofInt b)) (by rw [am_ix (by omega), hv]) hd (kk p l e s m args below meth c g X H locs ls hP hz hS hl)
theorem V_gets1 {idx : Nat} (hd : decode (am_c M) pc = .ok (.getstatic idx, 3)) (hw : Cond.fieldLink M.1.cls idx "java/lang/String" "COMPACT_STRINGS" "Z" ∈ am_tbl) (kk : am_V x M Po cs sh σ (pc + 3) lv (Zi 1 :: st)) : am_V x M Po cs sh σ pc lv st := by
  intro p l e s m args below meth c g X H locs ls hP hz hS hl
  obtain ⟨hx, hb, hret, hml, hown, hts, hK, hlk, hnm, hxs⟩ := id X
  exact va_gets hx hb hK.2.2.2.2.2.2.2.2.1 hS hown (hts _ hw) (fun _ h => h) hd (kk p l e s m args below meth c g X H locs ls hP hz hS hl)
theorem V_getsF {idx : Nat} (hd : decode (am_c M) pc = .ok (.getstatic idx, 3)) (hw : Cond.fieldLink M.1.cls idx "jdk/internal/util/Preconditions" "SIOOBE_FORMATTER" "Ljava/util/function/BiFunction;" ∈ am_tbl) (kk : am_V x M Po cs sh σ (pc + 3) lv (Zo :: st)) : am_V x M Po cs sh σ pc lv st := by
  intro p l e s m args below meth c g X H locs ls hP hz hS hl
  obtain ⟨hx, hb, hret, hml, hown, hts, hK, hlk, hnm, hxs⟩ := id X
  exact va_gets hx hb hK.2.2.2.2.2.2.2.2.2 hS hown (hts _ hw) (fun _ h => h) hd (kk p l e s m args below meth c g X H locs ls hP hz hS hl)
theorem V_i2c {a : Int} (hd : decode (am_c M) pc = .ok (.i2c, 1)) (ha : 0 ≤ a ∧ a < 65536) (kk : am_V x M Po cs sh σ (pc + 1) lv (Zi a :: st)) : am_V x M Po cs sh σ pc lv (Zi a :: st) := by
  intro p l e s m args below meth c g X H locs ls hP hz hS hl
  obtain ⟨hx, hb, hret, hml, hown, hts, hK, hlk, hnm, hxs⟩ := id X
  have h1 : (Int32.ofInt a).toInt = a := am_toInt ⟨by omega, by omega⟩
  exact lv_i2c hx hb hd (lg_i2c_word (by rw [h1]; exact ha.1) (by rw [h1]; exact ha.2)) (kk p l e s m args below meth c g X H locs ls hP hz hS hl)
/-- what a method of a small type returns -/
theorem V_sret {z : Int} {ty : FieldType} (hd : decode (am_c M) pc = .ok (.ireturn, 1)) (hr : M.2.2.2.1 = some ty) (hn : narrow ty (.int (Int32.ofInt z)) = .int (Int32.ofInt z)) (hc : (Nat.ble cs.1 M.2.2.2.2.cells && Nat.ble cs.2 M.2.2.2.2.slots) = true) (h : Po (some (Zi z)) sh σ) : am_V x M Po cs sh σ pc lv [Zi z] := by
  intro p l e s m args below meth c g X H locs ls hP hz hS hl
  obtain ⟨hx, hb, hret, hml, hown, hts, hK, hlk, hnm, hxs⟩ := id X
  refine am_size hP hS hz hK.2.1 (fun hsz => ?_)
  refine W.widen (am_fitc hc).1 (am_fitc hc).2 ?_
  exact W.zret hx hb (hret.trans hr) hn (fun t ht hW => ⟨⟨some (Zi z), sh, σ, rfl, h, by rw [ht]; exact hP, by rw [ht]; exact hsz⟩, hS.F ht⟩) hS.2.2 hd hlk
end AMM
section AMCS
variable {x : am_Sc} {M M' : am_MT} {Po Po' : Option am_AV → am_Sh → am_St → Prop} {cs : Nat × Nat} {sh : am_Sh} {σ : am_St} {pc : Nat} {lv : List (Option am_AV)} {st vs : List am_AV}
/-- a text's own method -/
theorem am_callT {n i idx : Nat} (L : am_CV M M' idx n) (hd : decode (am_c M) pc = .ok (.invokevirtual idx, 3)) (hi : i < 7) (hC : M'.1.cls = "java/lang/String") (hn : vs.length = n)
    (hent : (am_ent (Zr (1000001 + i) :: vs)).length ≤ M'.2.2.1) (hst : Nat.ble st.length 4 = true) (hcc : cs.1 + M'.2.2.2.2.cells ≤ M.2.2.2.2.cells ∧ cs.2 + M'.2.2.2.2.slots ≤ M.2.2.2.2.slots)
    (K : am_V x M' Po' (0, 0) sh σ 0 (am_lv (Zr (1000001 + i) :: vs) M'.2.2.1) []) (k : ∀ r sh' σ', Po' r sh' σ' → (M'.2.2.2.2.cells = 0 ∨ sh'.length = sh.length + M'.2.2.2.2.cells) ∧ am_V x M Po (cs.1 + M'.2.2.2.2.cells, cs.2 + M'.2.2.2.2.slots) sh' σ' (pc + 3) lv (am_psh r st)) :
    am_V x M Po cs sh σ pc lv (vs.reverse ++ Zr (1000001 + i) :: st) := by
  intro p l e s m args below meth c g X H locs ls hP hz hS hl
  obtain ⟨hx, hb, hret, hml, hown, hts, hK, hlk, hnm, hxs⟩ := id X
  refine am_size hP hS hz hK.2.1 (fun hsz => ?_)
  have e9 : am_cv g (Zr (1000001 + i)) = .ref (g.2.1 (i + 1)) := by
    show Value.ref (am_ad g (1000001 + i)) = _
    unfold am_ad
    rw [if_neg (by omega), show 1000001 + i - 1000000 = i + 1 by omega]
  have hrv := vk_recv hK.2.2.1 hi hS
  rw [List.map_append, List.map_cons, e9]
  have e0 : (Zr (1000001 + i) :: vs).map (am_cv g) = .ref (g.2.1 (i + 1)) :: vs.map (am_cv g) := by rw [List.map_cons, e9]
  rw [← hC] at hrv
  refine am_back X hP hz hS hl (va_runV (As := vs.map (am_cv g)) (C := M'.1.cls) (nL := M.2.2.1) (n := n) ⟨hx, hb, hml, hown, hts⟩ (am_met K L.1.2.2.1 hent l g hxs) (cwV n hts (fun w hw => ?_) rfl rfl rfl ⟨rfl, L.1.2.2.2.1⟩ L.1.2.2.2.2) ⟨am_blind g _ sh σ, hrv, fun U hU hW => ⟨by rw [e0], by rw [hU]; exact hsz, by rw [hU]; exact hP, am_K_warm hS hU hW hK⟩⟩ rfl (by simpa using hn) hl.1 (by simp [List.map_reverse]) (lv_room (am_catsum g st hst)) hd hcc) k
  simp only [wsV, List.cons_append, List.nil_append, List.mem_cons] at hw
  rcases hw with rfl | rfl | rfl | rfl | rfl | hw
  · exact am_good2 L.2.1
  · exact am_good2 L.2.2.1
  · exact am_good2 L.2.2.2
  · exact am_good2 L.1.2.1
  · exact am_good2 L.1.1
  · exact am_good2 hw
end AMCS
end
