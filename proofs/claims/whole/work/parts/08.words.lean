theorem tl_1 : ∀ w ∈ (wsL_law_r1 ++ (wsL_law_r2 ++ (wsL_law_r3 ++ (wsL_law_r4 ++ (wsL_law_r5 ++ (wsL_law_r6 ++ (wsL_law_r7 ++ (wsL_law_r8 ++ (wsL_law_r9 ++ (wsL_law_r10 ++ (wsL_law_r11 ++ (wsL_law_r12 ++ (wsL_law_r13 ++ (wsL_law_r14 ++ (wsL_law_r15 ++ (wsL_law_r16 ++ (wsL_law_r17 ++ (wsL_law_r18 ++ (wsL_law_r19 ++ (wsL_law_r20 ++ (wsL_law_r21 ++ (wsL_law_r22 ++ (wsL_law_r23 ++ (wsL_law_r24 ++ (wsL_law_r25 ++ (wsL_law_r26 ++ (wsL_law_r27 ++ (wsL_law_r28 ++ (wsL_law_r29 ++ (wsL_law_r30 ++ (wsL_law_r31 ++ (wsL_law_r32 ++ (wsL_law_r33 ++ (wsL_law_r34 ++ (wsL_law_r35 ++ (wsL_law_r36 ++ (wsL_law_r37 ++ (wsL_law_r38 ++ (wsL_law_r39 ++ (wsL_law_r40 ++ (wsL_law_r41 ++ (wsL_law_r42 ++ (wsL_law_r43 ++ (wsL_law_r44 ++ (wsL_law_r45 ++ (wsL_law_r46 ++ (wsL_law_r47 ++ wsL_law_r48))))))))))))))))))))))))))))))))))))))))))))))), w ∈ wsL_law := fun _ h => List.mem_append_left _ (List.mem_append_left _ (List.mem_append_left _ (List.mem_append_left _ (List.mem_append_left _ (List.mem_append_left _ (List.mem_append_left _ (List.mem_append_left _ (List.mem_append_left _ (List.mem_append_left _ (List.mem_append_left _ (List.mem_append_left _ h)))))))))))
theorem tl_2 : ∀ w ∈ (wsL_law_r2 ++ (wsL_law_r3 ++ (wsL_law_r4 ++ (wsL_law_r5 ++ (wsL_law_r6 ++ (wsL_law_r7 ++ (wsL_law_r8 ++ (wsL_law_r9 ++ (wsL_law_r10 ++ (wsL_law_r11 ++ (wsL_law_r12 ++ (wsL_law_r13 ++ (wsL_law_r14 ++ (wsL_law_r15 ++ (wsL_law_r16 ++ (wsL_law_r17 ++ (wsL_law_r18 ++ (wsL_law_r19 ++ (wsL_law_r20 ++ (wsL_law_r21 ++ (wsL_law_r22 ++ (wsL_law_r23 ++ (wsL_law_r24 ++ (wsL_law_r25 ++ (wsL_law_r26 ++ (wsL_law_r27 ++ (wsL_law_r28 ++ (wsL_law_r29 ++ (wsL_law_r30 ++ (wsL_law_r31 ++ (wsL_law_r32 ++ (wsL_law_r33 ++ (wsL_law_r34 ++ (wsL_law_r35 ++ (wsL_law_r36 ++ (wsL_law_r37 ++ (wsL_law_r38 ++ (wsL_law_r39 ++ (wsL_law_r40 ++ (wsL_law_r41 ++ (wsL_law_r42 ++ (wsL_law_r43 ++ (wsL_law_r44 ++ (wsL_law_r45 ++ (wsL_law_r46 ++ (wsL_law_r47 ++ wsL_law_r48)))))))))))))))))))))))))))))))))))))))))))))), w ∈ wsL_law := fun w h => tl_1 w (List.mem_append_right _ h)
theorem tl_3 : ∀ w ∈ (wsL_law_r3 ++ (wsL_law_r4 ++ (wsL_law_r5 ++ (wsL_law_r6 ++ (wsL_law_r7 ++ (wsL_law_r8 ++ (wsL_law_r9 ++ (wsL_law_r10 ++ (wsL_law_r11 ++ (wsL_law_r12 ++ (wsL_law_r13 ++ (wsL_law_r14 ++ (wsL_law_r15 ++ (wsL_law_r16 ++ (wsL_law_r17 ++ (wsL_law_r18 ++ (wsL_law_r19 ++ (wsL_law_r20 ++ (wsL_law_r21 ++ (wsL_law_r22 ++ (wsL_law_r23 ++ (wsL_law_r24 ++ (wsL_law_r25 ++ (wsL_law_r26 ++ (wsL_law_r27 ++ (wsL_law_r28 ++ (wsL_law_r29 ++ (wsL_law_r30 ++ (wsL_law_r31 ++ (wsL_law_r32 ++ (wsL_law_r33 ++ (wsL_law_r34 ++ (wsL_law_r35 ++ (wsL_law_r36 ++ (wsL_law_r37 ++ (wsL_law_r38 ++ (wsL_law_r39 ++ (wsL_law_r40 ++ (wsL_law_r41 ++ (wsL_law_r42 ++ (wsL_law_r43 ++ (wsL_law_r44 ++ (wsL_law_r45 ++ (wsL_law_r46 ++ (wsL_law_r47 ++ wsL_law_r48))))))))))))))))))))))))))))))))))))))))))))), w ∈ wsL_law := fun w h => tl_2 w (List.mem_append_right _ h)
theorem tl_4 : ∀ w ∈ (wsL_law_r4 ++ (wsL_law_r5 ++ (wsL_law_r6 ++ (wsL_law_r7 ++ (wsL_law_r8 ++ (wsL_law_r9 ++ (wsL_law_r10 ++ (wsL_law_r11 ++ (wsL_law_r12 ++ (wsL_law_r13 ++ (wsL_law_r14 ++ (wsL_law_r15 ++ (wsL_law_r16 ++ (wsL_law_r17 ++ (wsL_law_r18 ++ (wsL_law_r19 ++ (wsL_law_r20 ++ (wsL_law_r21 ++ (wsL_law_r22 ++ (wsL_law_r23 ++ (wsL_law_r24 ++ (wsL_law_r25 ++ (wsL_law_r26 ++ (wsL_law_r27 ++ (wsL_law_r28 ++ (wsL_law_r29 ++ (wsL_law_r30 ++ (wsL_law_r31 ++ (wsL_law_r32 ++ (wsL_law_r33 ++ (wsL_law_r34 ++ (wsL_law_r35 ++ (wsL_law_r36 ++ (wsL_law_r37 ++ (wsL_law_r38 ++ (wsL_law_r39 ++ (wsL_law_r40 ++ (wsL_law_r41 ++ (wsL_law_r42 ++ (wsL_law_r43 ++ (wsL_law_r44 ++ (wsL_law_r45 ++ (wsL_law_r46 ++ (wsL_law_r47 ++ wsL_law_r48)))))))))))))))))))))))))))))))))))))))))))), w ∈ wsL_law := fun w h => tl_3 w (List.mem_append_right _ h)
theorem tl_5 : ∀ w ∈ (wsL_law_r5 ++ (wsL_law_r6 ++ (wsL_law_r7 ++ (wsL_law_r8 ++ (wsL_law_r9 ++ (wsL_law_r10 ++ (wsL_law_r11 ++ (wsL_law_r12 ++ (wsL_law_r13 ++ (wsL_law_r14 ++ (wsL_law_r15 ++ (wsL_law_r16 ++ (wsL_law_r17 ++ (wsL_law_r18 ++ (wsL_law_r19 ++ (wsL_law_r20 ++ (wsL_law_r21 ++ (wsL_law_r22 ++ (wsL_law_r23 ++ (wsL_law_r24 ++ (wsL_law_r25 ++ (wsL_law_r26 ++ (wsL_law_r27 ++ (wsL_law_r28 ++ (wsL_law_r29 ++ (wsL_law_r30 ++ (wsL_law_r31 ++ (wsL_law_r32 ++ (wsL_law_r33 ++ (wsL_law_r34 ++ (wsL_law_r35 ++ (wsL_law_r36 ++ (wsL_law_r37 ++ (wsL_law_r38 ++ (wsL_law_r39 ++ (wsL_law_r40 ++ (wsL_law_r41 ++ (wsL_law_r42 ++ (wsL_law_r43 ++ (wsL_law_r44 ++ (wsL_law_r45 ++ (wsL_law_r46 ++ (wsL_law_r47 ++ wsL_law_r48))))))))))))))))))))))))))))))))))))))))))), w ∈ wsL_law := fun w h => tl_4 w (List.mem_append_right _ h)
theorem tl_6 : ∀ w ∈ (wsL_law_r6 ++ (wsL_law_r7 ++ (wsL_law_r8 ++ (wsL_law_r9 ++ (wsL_law_r10 ++ (wsL_law_r11 ++ (wsL_law_r12 ++ (wsL_law_r13 ++ (wsL_law_r14 ++ (wsL_law_r15 ++ (wsL_law_r16 ++ (wsL_law_r17 ++ (wsL_law_r18 ++ (wsL_law_r19 ++ (wsL_law_r20 ++ (wsL_law_r21 ++ (wsL_law_r22 ++ (wsL_law_r23 ++ (wsL_law_r24 ++ (wsL_law_r25 ++ (wsL_law_r26 ++ (wsL_law_r27 ++ (wsL_law_r28 ++ (wsL_law_r29 ++ (wsL_law_r30 ++ (wsL_law_r31 ++ (wsL_law_r32 ++ (wsL_law_r33 ++ (wsL_law_r34 ++ (wsL_law_r35 ++ (wsL_law_r36 ++ (wsL_law_r37 ++ (wsL_law_r38 ++ (wsL_law_r39 ++ (wsL_law_r40 ++ (wsL_law_r41 ++ (wsL_law_r42 ++ (wsL_law_r43 ++ (wsL_law_r44 ++ (wsL_law_r45 ++ (wsL_law_r46 ++ (wsL_law_r47 ++ wsL_law_r48)))))))))))))))))))))))))))))))))))))))))), w ∈ wsL_law := fun w h => tl_5 w (List.mem_append_right _ h)
theorem tl_7 : ∀ w ∈ (wsL_law_r7 ++ (wsL_law_r8 ++ (wsL_law_r9 ++ (wsL_law_r10 ++ (wsL_law_r11 ++ (wsL_law_r12 ++ (wsL_law_r13 ++ (wsL_law_r14 ++ (wsL_law_r15 ++ (wsL_law_r16 ++ (wsL_law_r17 ++ (wsL_law_r18 ++ (wsL_law_r19 ++ (wsL_law_r20 ++ (wsL_law_r21 ++ (wsL_law_r22 ++ (wsL_law_r23 ++ (wsL_law_r24 ++ (wsL_law_r25 ++ (wsL_law_r26 ++ (wsL_law_r27 ++ (wsL_law_r28 ++ (wsL_law_r29 ++ (wsL_law_r30 ++ (wsL_law_r31 ++ (wsL_law_r32 ++ (wsL_law_r33 ++ (wsL_law_r34 ++ (wsL_law_r35 ++ (wsL_law_r36 ++ (wsL_law_r37 ++ (wsL_law_r38 ++ (wsL_law_r39 ++ (wsL_law_r40 ++ (wsL_law_r41 ++ (wsL_law_r42 ++ (wsL_law_r43 ++ (wsL_law_r44 ++ (wsL_law_r45 ++ (wsL_law_r46 ++ (wsL_law_r47 ++ wsL_law_r48))))))))))))))))))))))))))))))))))))))))), w ∈ wsL_law := fun w h => tl_6 w (List.mem_append_right _ h)
theorem tl_8 : ∀ w ∈ (wsL_law_r8 ++ (wsL_law_r9 ++ (wsL_law_r10 ++ (wsL_law_r11 ++ (wsL_law_r12 ++ (wsL_law_r13 ++ (wsL_law_r14 ++ (wsL_law_r15 ++ (wsL_law_r16 ++ (wsL_law_r17 ++ (wsL_law_r18 ++ (wsL_law_r19 ++ (wsL_law_r20 ++ (wsL_law_r21 ++ (wsL_law_r22 ++ (wsL_law_r23 ++ (wsL_law_r24 ++ (wsL_law_r25 ++ (wsL_law_r26 ++ (wsL_law_r27 ++ (wsL_law_r28 ++ (wsL_law_r29 ++ (wsL_law_r30 ++ (wsL_law_r31 ++ (wsL_law_r32 ++ (wsL_law_r33 ++ (wsL_law_r34 ++ (wsL_law_r35 ++ (wsL_law_r36 ++ (wsL_law_r37 ++ (wsL_law_r38 ++ (wsL_law_r39 ++ (wsL_law_r40 ++ (wsL_law_r41 ++ (wsL_law_r42 ++ (wsL_law_r43 ++ (wsL_law_r44 ++ (wsL_law_r45 ++ (wsL_law_r46 ++ (wsL_law_r47 ++ wsL_law_r48)))))))))))))))))))))))))))))))))))))))), w ∈ wsL_law := fun w h => tl_7 w (List.mem_append_right _ h)
theorem tl_9 : ∀ w ∈ (wsL_law_r9 ++ (wsL_law_r10 ++ (wsL_law_r11 ++ (wsL_law_r12 ++ (wsL_law_r13 ++ (wsL_law_r14 ++ (wsL_law_r15 ++ (wsL_law_r16 ++ (wsL_law_r17 ++ (wsL_law_r18 ++ (wsL_law_r19 ++ (wsL_law_r20 ++ (wsL_law_r21 ++ (wsL_law_r22 ++ (wsL_law_r23 ++ (wsL_law_r24 ++ (wsL_law_r25 ++ (wsL_law_r26 ++ (wsL_law_r27 ++ (wsL_law_r28 ++ (wsL_law_r29 ++ (wsL_law_r30 ++ (wsL_law_r31 ++ (wsL_law_r32 ++ (wsL_law_r33 ++ (wsL_law_r34 ++ (wsL_law_r35 ++ (wsL_law_r36 ++ (wsL_law_r37 ++ (wsL_law_r38 ++ (wsL_law_r39 ++ (wsL_law_r40 ++ (wsL_law_r41 ++ (wsL_law_r42 ++ (wsL_law_r43 ++ (wsL_law_r44 ++ (wsL_law_r45 ++ (wsL_law_r46 ++ (wsL_law_r47 ++ wsL_law_r48))))))))))))))))))))))))))))))))))))))), w ∈ wsL_law := fun w h => tl_8 w (List.mem_append_right _ h)
theorem tl_10 : ∀ w ∈ (wsL_law_r10 ++ (wsL_law_r11 ++ (wsL_law_r12 ++ (wsL_law_r13 ++ (wsL_law_r14 ++ (wsL_law_r15 ++ (wsL_law_r16 ++ (wsL_law_r17 ++ (wsL_law_r18 ++ (wsL_law_r19 ++ (wsL_law_r20 ++ (wsL_law_r21 ++ (wsL_law_r22 ++ (wsL_law_r23 ++ (wsL_law_r24 ++ (wsL_law_r25 ++ (wsL_law_r26 ++ (wsL_law_r27 ++ (wsL_law_r28 ++ (wsL_law_r29 ++ (wsL_law_r30 ++ (wsL_law_r31 ++ (wsL_law_r32 ++ (wsL_law_r33 ++ (wsL_law_r34 ++ (wsL_law_r35 ++ (wsL_law_r36 ++ (wsL_law_r37 ++ (wsL_law_r38 ++ (wsL_law_r39 ++ (wsL_law_r40 ++ (wsL_law_r41 ++ (wsL_law_r42 ++ (wsL_law_r43 ++ (wsL_law_r44 ++ (wsL_law_r45 ++ (wsL_law_r46 ++ (wsL_law_r47 ++ wsL_law_r48)))))))))))))))))))))))))))))))))))))), w ∈ wsL_law := fun w h => tl_9 w (List.mem_append_right _ h)
theorem tl_11 : ∀ w ∈ (wsL_law_r11 ++ (wsL_law_r12 ++ (wsL_law_r13 ++ (wsL_law_r14 ++ (wsL_law_r15 ++ (wsL_law_r16 ++ (wsL_law_r17 ++ (wsL_law_r18 ++ (wsL_law_r19 ++ (wsL_law_r20 ++ (wsL_law_r21 ++ (wsL_law_r22 ++ (wsL_law_r23 ++ (wsL_law_r24 ++ (wsL_law_r25 ++ (wsL_law_r26 ++ (wsL_law_r27 ++ (wsL_law_r28 ++ (wsL_law_r29 ++ (wsL_law_r30 ++ (wsL_law_r31 ++ (wsL_law_r32 ++ (wsL_law_r33 ++ (wsL_law_r34 ++ (wsL_law_r35 ++ (wsL_law_r36 ++ (wsL_law_r37 ++ (wsL_law_r38 ++ (wsL_law_r39 ++ (wsL_law_r40 ++ (wsL_law_r41 ++ (wsL_law_r42 ++ (wsL_law_r43 ++ (wsL_law_r44 ++ (wsL_law_r45 ++ (wsL_law_r46 ++ (wsL_law_r47 ++ wsL_law_r48))))))))))))))))))))))))))))))))))))), w ∈ wsL_law := fun w h => tl_10 w (List.mem_append_right _ h)
theorem tl_12 : ∀ w ∈ (wsL_law_r12 ++ (wsL_law_r13 ++ (wsL_law_r14 ++ (wsL_law_r15 ++ (wsL_law_r16 ++ (wsL_law_r17 ++ (wsL_law_r18 ++ (wsL_law_r19 ++ (wsL_law_r20 ++ (wsL_law_r21 ++ (wsL_law_r22 ++ (wsL_law_r23 ++ (wsL_law_r24 ++ (wsL_law_r25 ++ (wsL_law_r26 ++ (wsL_law_r27 ++ (wsL_law_r28 ++ (wsL_law_r29 ++ (wsL_law_r30 ++ (wsL_law_r31 ++ (wsL_law_r32 ++ (wsL_law_r33 ++ (wsL_law_r34 ++ (wsL_law_r35 ++ (wsL_law_r36 ++ (wsL_law_r37 ++ (wsL_law_r38 ++ (wsL_law_r39 ++ (wsL_law_r40 ++ (wsL_law_r41 ++ (wsL_law_r42 ++ (wsL_law_r43 ++ (wsL_law_r44 ++ (wsL_law_r45 ++ (wsL_law_r46 ++ (wsL_law_r47 ++ wsL_law_r48)))))))))))))))))))))))))))))))))))), w ∈ wsL_law := fun w h => tl_11 w (List.mem_append_right _ h)
theorem tl_13 : ∀ w ∈ (wsL_law_r13 ++ (wsL_law_r14 ++ (wsL_law_r15 ++ (wsL_law_r16 ++ (wsL_law_r17 ++ (wsL_law_r18 ++ (wsL_law_r19 ++ (wsL_law_r20 ++ (wsL_law_r21 ++ (wsL_law_r22 ++ (wsL_law_r23 ++ (wsL_law_r24 ++ (wsL_law_r25 ++ (wsL_law_r26 ++ (wsL_law_r27 ++ (wsL_law_r28 ++ (wsL_law_r29 ++ (wsL_law_r30 ++ (wsL_law_r31 ++ (wsL_law_r32 ++ (wsL_law_r33 ++ (wsL_law_r34 ++ (wsL_law_r35 ++ (wsL_law_r36 ++ (wsL_law_r37 ++ (wsL_law_r38 ++ (wsL_law_r39 ++ (wsL_law_r40 ++ (wsL_law_r41 ++ (wsL_law_r42 ++ (wsL_law_r43 ++ (wsL_law_r44 ++ (wsL_law_r45 ++ (wsL_law_r46 ++ (wsL_law_r47 ++ wsL_law_r48))))))))))))))))))))))))))))))))))), w ∈ wsL_law := fun w h => tl_12 w (List.mem_append_right _ h)
theorem tl_14 : ∀ w ∈ (wsL_law_r14 ++ (wsL_law_r15 ++ (wsL_law_r16 ++ (wsL_law_r17 ++ (wsL_law_r18 ++ (wsL_law_r19 ++ (wsL_law_r20 ++ (wsL_law_r21 ++ (wsL_law_r22 ++ (wsL_law_r23 ++ (wsL_law_r24 ++ (wsL_law_r25 ++ (wsL_law_r26 ++ (wsL_law_r27 ++ (wsL_law_r28 ++ (wsL_law_r29 ++ (wsL_law_r30 ++ (wsL_law_r31 ++ (wsL_law_r32 ++ (wsL_law_r33 ++ (wsL_law_r34 ++ (wsL_law_r35 ++ (wsL_law_r36 ++ (wsL_law_r37 ++ (wsL_law_r38 ++ (wsL_law_r39 ++ (wsL_law_r40 ++ (wsL_law_r41 ++ (wsL_law_r42 ++ (wsL_law_r43 ++ (wsL_law_r44 ++ (wsL_law_r45 ++ (wsL_law_r46 ++ (wsL_law_r47 ++ wsL_law_r48)))))))))))))))))))))))))))))))))), w ∈ wsL_law := fun w h => tl_13 w (List.mem_append_right _ h)
theorem tl_15 : ∀ w ∈ (wsL_law_r15 ++ (wsL_law_r16 ++ (wsL_law_r17 ++ (wsL_law_r18 ++ (wsL_law_r19 ++ (wsL_law_r20 ++ (wsL_law_r21 ++ (wsL_law_r22 ++ (wsL_law_r23 ++ (wsL_law_r24 ++ (wsL_law_r25 ++ (wsL_law_r26 ++ (wsL_law_r27 ++ (wsL_law_r28 ++ (wsL_law_r29 ++ (wsL_law_r30 ++ (wsL_law_r31 ++ (wsL_law_r32 ++ (wsL_law_r33 ++ (wsL_law_r34 ++ (wsL_law_r35 ++ (wsL_law_r36 ++ (wsL_law_r37 ++ (wsL_law_r38 ++ (wsL_law_r39 ++ (wsL_law_r40 ++ (wsL_law_r41 ++ (wsL_law_r42 ++ (wsL_law_r43 ++ (wsL_law_r44 ++ (wsL_law_r45 ++ (wsL_law_r46 ++ (wsL_law_r47 ++ wsL_law_r48))))))))))))))))))))))))))))))))), w ∈ wsL_law := fun w h => tl_14 w (List.mem_append_right _ h)
theorem tl_16 : ∀ w ∈ (wsL_law_r16 ++ (wsL_law_r17 ++ (wsL_law_r18 ++ (wsL_law_r19 ++ (wsL_law_r20 ++ (wsL_law_r21 ++ (wsL_law_r22 ++ (wsL_law_r23 ++ (wsL_law_r24 ++ (wsL_law_r25 ++ (wsL_law_r26 ++ (wsL_law_r27 ++ (wsL_law_r28 ++ (wsL_law_r29 ++ (wsL_law_r30 ++ (wsL_law_r31 ++ (wsL_law_r32 ++ (wsL_law_r33 ++ (wsL_law_r34 ++ (wsL_law_r35 ++ (wsL_law_r36 ++ (wsL_law_r37 ++ (wsL_law_r38 ++ (wsL_law_r39 ++ (wsL_law_r40 ++ (wsL_law_r41 ++ (wsL_law_r42 ++ (wsL_law_r43 ++ (wsL_law_r44 ++ (wsL_law_r45 ++ (wsL_law_r46 ++ (wsL_law_r47 ++ wsL_law_r48)))))))))))))))))))))))))))))))), w ∈ wsL_law := fun w h => tl_15 w (List.mem_append_right _ h)
theorem tl_17 : ∀ w ∈ (wsL_law_r17 ++ (wsL_law_r18 ++ (wsL_law_r19 ++ (wsL_law_r20 ++ (wsL_law_r21 ++ (wsL_law_r22 ++ (wsL_law_r23 ++ (wsL_law_r24 ++ (wsL_law_r25 ++ (wsL_law_r26 ++ (wsL_law_r27 ++ (wsL_law_r28 ++ (wsL_law_r29 ++ (wsL_law_r30 ++ (wsL_law_r31 ++ (wsL_law_r32 ++ (wsL_law_r33 ++ (wsL_law_r34 ++ (wsL_law_r35 ++ (wsL_law_r36 ++ (wsL_law_r37 ++ (wsL_law_r38 ++ (wsL_law_r39 ++ (wsL_law_r40 ++ (wsL_law_r41 ++ (wsL_law_r42 ++ (wsL_law_r43 ++ (wsL_law_r44 ++ (wsL_law_r45 ++ (wsL_law_r46 ++ (wsL_law_r47 ++ wsL_law_r48))))))))))))))))))))))))))))))), w ∈ wsL_law := fun w h => tl_16 w (List.mem_append_right _ h)
theorem tl_18 : ∀ w ∈ (wsL_law_r18 ++ (wsL_law_r19 ++ (wsL_law_r20 ++ (wsL_law_r21 ++ (wsL_law_r22 ++ (wsL_law_r23 ++ (wsL_law_r24 ++ (wsL_law_r25 ++ (wsL_law_r26 ++ (wsL_law_r27 ++ (wsL_law_r28 ++ (wsL_law_r29 ++ (wsL_law_r30 ++ (wsL_law_r31 ++ (wsL_law_r32 ++ (wsL_law_r33 ++ (wsL_law_r34 ++ (wsL_law_r35 ++ (wsL_law_r36 ++ (wsL_law_r37 ++ (wsL_law_r38 ++ (wsL_law_r39 ++ (wsL_law_r40 ++ (wsL_law_r41 ++ (wsL_law_r42 ++ (wsL_law_r43 ++ (wsL_law_r44 ++ (wsL_law_r45 ++ (wsL_law_r46 ++ (wsL_law_r47 ++ wsL_law_r48)))))))))))))))))))))))))))))), w ∈ wsL_law := fun w h => tl_17 w (List.mem_append_right _ h)
theorem tl_19 : ∀ w ∈ (wsL_law_r19 ++ (wsL_law_r20 ++ (wsL_law_r21 ++ (wsL_law_r22 ++ (wsL_law_r23 ++ (wsL_law_r24 ++ (wsL_law_r25 ++ (wsL_law_r26 ++ (wsL_law_r27 ++ (wsL_law_r28 ++ (wsL_law_r29 ++ (wsL_law_r30 ++ (wsL_law_r31 ++ (wsL_law_r32 ++ (wsL_law_r33 ++ (wsL_law_r34 ++ (wsL_law_r35 ++ (wsL_law_r36 ++ (wsL_law_r37 ++ (wsL_law_r38 ++ (wsL_law_r39 ++ (wsL_law_r40 ++ (wsL_law_r41 ++ (wsL_law_r42 ++ (wsL_law_r43 ++ (wsL_law_r44 ++ (wsL_law_r45 ++ (wsL_law_r46 ++ (wsL_law_r47 ++ wsL_law_r48))))))))))))))))))))))))))))), w ∈ wsL_law := fun w h => tl_18 w (List.mem_append_right _ h)
theorem tl_20 : ∀ w ∈ (wsL_law_r20 ++ (wsL_law_r21 ++ (wsL_law_r22 ++ (wsL_law_r23 ++ (wsL_law_r24 ++ (wsL_law_r25 ++ (wsL_law_r26 ++ (wsL_law_r27 ++ (wsL_law_r28 ++ (wsL_law_r29 ++ (wsL_law_r30 ++ (wsL_law_r31 ++ (wsL_law_r32 ++ (wsL_law_r33 ++ (wsL_law_r34 ++ (wsL_law_r35 ++ (wsL_law_r36 ++ (wsL_law_r37 ++ (wsL_law_r38 ++ (wsL_law_r39 ++ (wsL_law_r40 ++ (wsL_law_r41 ++ (wsL_law_r42 ++ (wsL_law_r43 ++ (wsL_law_r44 ++ (wsL_law_r45 ++ (wsL_law_r46 ++ (wsL_law_r47 ++ wsL_law_r48)))))))))))))))))))))))))))), w ∈ wsL_law := fun w h => tl_19 w (List.mem_append_right _ h)
theorem tl_21 : ∀ w ∈ (wsL_law_r21 ++ (wsL_law_r22 ++ (wsL_law_r23 ++ (wsL_law_r24 ++ (wsL_law_r25 ++ (wsL_law_r26 ++ (wsL_law_r27 ++ (wsL_law_r28 ++ (wsL_law_r29 ++ (wsL_law_r30 ++ (wsL_law_r31 ++ (wsL_law_r32 ++ (wsL_law_r33 ++ (wsL_law_r34 ++ (wsL_law_r35 ++ (wsL_law_r36 ++ (wsL_law_r37 ++ (wsL_law_r38 ++ (wsL_law_r39 ++ (wsL_law_r40 ++ (wsL_law_r41 ++ (wsL_law_r42 ++ (wsL_law_r43 ++ (wsL_law_r44 ++ (wsL_law_r45 ++ (wsL_law_r46 ++ (wsL_law_r47 ++ wsL_law_r48))))))))))))))))))))))))))), w ∈ wsL_law := fun w h => tl_20 w (List.mem_append_right _ h)
theorem tl_22 : ∀ w ∈ (wsL_law_r22 ++ (wsL_law_r23 ++ (wsL_law_r24 ++ (wsL_law_r25 ++ (wsL_law_r26 ++ (wsL_law_r27 ++ (wsL_law_r28 ++ (wsL_law_r29 ++ (wsL_law_r30 ++ (wsL_law_r31 ++ (wsL_law_r32 ++ (wsL_law_r33 ++ (wsL_law_r34 ++ (wsL_law_r35 ++ (wsL_law_r36 ++ (wsL_law_r37 ++ (wsL_law_r38 ++ (wsL_law_r39 ++ (wsL_law_r40 ++ (wsL_law_r41 ++ (wsL_law_r42 ++ (wsL_law_r43 ++ (wsL_law_r44 ++ (wsL_law_r45 ++ (wsL_law_r46 ++ (wsL_law_r47 ++ wsL_law_r48)))))))))))))))))))))))))), w ∈ wsL_law := fun w h => tl_21 w (List.mem_append_right _ h)
theorem tl_23 : ∀ w ∈ (wsL_law_r23 ++ (wsL_law_r24 ++ (wsL_law_r25 ++ (wsL_law_r26 ++ (wsL_law_r27 ++ (wsL_law_r28 ++ (wsL_law_r29 ++ (wsL_law_r30 ++ (wsL_law_r31 ++ (wsL_law_r32 ++ (wsL_law_r33 ++ (wsL_law_r34 ++ (wsL_law_r35 ++ (wsL_law_r36 ++ (wsL_law_r37 ++ (wsL_law_r38 ++ (wsL_law_r39 ++ (wsL_law_r40 ++ (wsL_law_r41 ++ (wsL_law_r42 ++ (wsL_law_r43 ++ (wsL_law_r44 ++ (wsL_law_r45 ++ (wsL_law_r46 ++ (wsL_law_r47 ++ wsL_law_r48))))))))))))))))))))))))), w ∈ wsL_law := fun w h => tl_22 w (List.mem_append_right _ h)
theorem tl_24 : ∀ w ∈ (wsL_law_r24 ++ (wsL_law_r25 ++ (wsL_law_r26 ++ (wsL_law_r27 ++ (wsL_law_r28 ++ (wsL_law_r29 ++ (wsL_law_r30 ++ (wsL_law_r31 ++ (wsL_law_r32 ++ (wsL_law_r33 ++ (wsL_law_r34 ++ (wsL_law_r35 ++ (wsL_law_r36 ++ (wsL_law_r37 ++ (wsL_law_r38 ++ (wsL_law_r39 ++ (wsL_law_r40 ++ (wsL_law_r41 ++ (wsL_law_r42 ++ (wsL_law_r43 ++ (wsL_law_r44 ++ (wsL_law_r45 ++ (wsL_law_r46 ++ (wsL_law_r47 ++ wsL_law_r48)))))))))))))))))))))))), w ∈ wsL_law := fun w h => tl_23 w (List.mem_append_right _ h)
theorem tl_25 : ∀ w ∈ (wsL_law_r25 ++ (wsL_law_r26 ++ (wsL_law_r27 ++ (wsL_law_r28 ++ (wsL_law_r29 ++ (wsL_law_r30 ++ (wsL_law_r31 ++ (wsL_law_r32 ++ (wsL_law_r33 ++ (wsL_law_r34 ++ (wsL_law_r35 ++ (wsL_law_r36 ++ (wsL_law_r37 ++ (wsL_law_r38 ++ (wsL_law_r39 ++ (wsL_law_r40 ++ (wsL_law_r41 ++ (wsL_law_r42 ++ (wsL_law_r43 ++ (wsL_law_r44 ++ (wsL_law_r45 ++ (wsL_law_r46 ++ (wsL_law_r47 ++ wsL_law_r48))))))))))))))))))))))), w ∈ wsL_law := fun w h => tl_24 w (List.mem_append_right _ h)
theorem tl_26 : ∀ w ∈ (wsL_law_r26 ++ (wsL_law_r27 ++ (wsL_law_r28 ++ (wsL_law_r29 ++ (wsL_law_r30 ++ (wsL_law_r31 ++ (wsL_law_r32 ++ (wsL_law_r33 ++ (wsL_law_r34 ++ (wsL_law_r35 ++ (wsL_law_r36 ++ (wsL_law_r37 ++ (wsL_law_r38 ++ (wsL_law_r39 ++ (wsL_law_r40 ++ (wsL_law_r41 ++ (wsL_law_r42 ++ (wsL_law_r43 ++ (wsL_law_r44 ++ (wsL_law_r45 ++ (wsL_law_r46 ++ (wsL_law_r47 ++ wsL_law_r48)))))))))))))))))))))), w ∈ wsL_law := fun w h => tl_25 w (List.mem_append_right _ h)
theorem tl_27 : ∀ w ∈ (wsL_law_r27 ++ (wsL_law_r28 ++ (wsL_law_r29 ++ (wsL_law_r30 ++ (wsL_law_r31 ++ (wsL_law_r32 ++ (wsL_law_r33 ++ (wsL_law_r34 ++ (wsL_law_r35 ++ (wsL_law_r36 ++ (wsL_law_r37 ++ (wsL_law_r38 ++ (wsL_law_r39 ++ (wsL_law_r40 ++ (wsL_law_r41 ++ (wsL_law_r42 ++ (wsL_law_r43 ++ (wsL_law_r44 ++ (wsL_law_r45 ++ (wsL_law_r46 ++ (wsL_law_r47 ++ wsL_law_r48))))))))))))))))))))), w ∈ wsL_law := fun w h => tl_26 w (List.mem_append_right _ h)
theorem tl_28 : ∀ w ∈ (wsL_law_r28 ++ (wsL_law_r29 ++ (wsL_law_r30 ++ (wsL_law_r31 ++ (wsL_law_r32 ++ (wsL_law_r33 ++ (wsL_law_r34 ++ (wsL_law_r35 ++ (wsL_law_r36 ++ (wsL_law_r37 ++ (wsL_law_r38 ++ (wsL_law_r39 ++ (wsL_law_r40 ++ (wsL_law_r41 ++ (wsL_law_r42 ++ (wsL_law_r43 ++ (wsL_law_r44 ++ (wsL_law_r45 ++ (wsL_law_r46 ++ (wsL_law_r47 ++ wsL_law_r48)))))))))))))))))))), w ∈ wsL_law := fun w h => tl_27 w (List.mem_append_right _ h)
theorem tl_29 : ∀ w ∈ (wsL_law_r29 ++ (wsL_law_r30 ++ (wsL_law_r31 ++ (wsL_law_r32 ++ (wsL_law_r33 ++ (wsL_law_r34 ++ (wsL_law_r35 ++ (wsL_law_r36 ++ (wsL_law_r37 ++ (wsL_law_r38 ++ (wsL_law_r39 ++ (wsL_law_r40 ++ (wsL_law_r41 ++ (wsL_law_r42 ++ (wsL_law_r43 ++ (wsL_law_r44 ++ (wsL_law_r45 ++ (wsL_law_r46 ++ (wsL_law_r47 ++ wsL_law_r48))))))))))))))))))), w ∈ wsL_law := fun w h => tl_28 w (List.mem_append_right _ h)
theorem tl_30 : ∀ w ∈ (wsL_law_r30 ++ (wsL_law_r31 ++ (wsL_law_r32 ++ (wsL_law_r33 ++ (wsL_law_r34 ++ (wsL_law_r35 ++ (wsL_law_r36 ++ (wsL_law_r37 ++ (wsL_law_r38 ++ (wsL_law_r39 ++ (wsL_law_r40 ++ (wsL_law_r41 ++ (wsL_law_r42 ++ (wsL_law_r43 ++ (wsL_law_r44 ++ (wsL_law_r45 ++ (wsL_law_r46 ++ (wsL_law_r47 ++ wsL_law_r48)))))))))))))))))), w ∈ wsL_law := fun w h => tl_29 w (List.mem_append_right _ h)
theorem tl_31 : ∀ w ∈ (wsL_law_r31 ++ (wsL_law_r32 ++ (wsL_law_r33 ++ (wsL_law_r34 ++ (wsL_law_r35 ++ (wsL_law_r36 ++ (wsL_law_r37 ++ (wsL_law_r38 ++ (wsL_law_r39 ++ (wsL_law_r40 ++ (wsL_law_r41 ++ (wsL_law_r42 ++ (wsL_law_r43 ++ (wsL_law_r44 ++ (wsL_law_r45 ++ (wsL_law_r46 ++ (wsL_law_r47 ++ wsL_law_r48))))))))))))))))), w ∈ wsL_law := fun w h => tl_30 w (List.mem_append_right _ h)
theorem tl_32 : ∀ w ∈ (wsL_law_r32 ++ (wsL_law_r33 ++ (wsL_law_r34 ++ (wsL_law_r35 ++ (wsL_law_r36 ++ (wsL_law_r37 ++ (wsL_law_r38 ++ (wsL_law_r39 ++ (wsL_law_r40 ++ (wsL_law_r41 ++ (wsL_law_r42 ++ (wsL_law_r43 ++ (wsL_law_r44 ++ (wsL_law_r45 ++ (wsL_law_r46 ++ (wsL_law_r47 ++ wsL_law_r48)))))))))))))))), w ∈ wsL_law := fun w h => tl_31 w (List.mem_append_right _ h)
theorem tl_33 : ∀ w ∈ (wsL_law_r33 ++ (wsL_law_r34 ++ (wsL_law_r35 ++ (wsL_law_r36 ++ (wsL_law_r37 ++ (wsL_law_r38 ++ (wsL_law_r39 ++ (wsL_law_r40 ++ (wsL_law_r41 ++ (wsL_law_r42 ++ (wsL_law_r43 ++ (wsL_law_r44 ++ (wsL_law_r45 ++ (wsL_law_r46 ++ (wsL_law_r47 ++ wsL_law_r48))))))))))))))), w ∈ wsL_law := fun w h => tl_32 w (List.mem_append_right _ h)
theorem tl_34 : ∀ w ∈ (wsL_law_r34 ++ (wsL_law_r35 ++ (wsL_law_r36 ++ (wsL_law_r37 ++ (wsL_law_r38 ++ (wsL_law_r39 ++ (wsL_law_r40 ++ (wsL_law_r41 ++ (wsL_law_r42 ++ (wsL_law_r43 ++ (wsL_law_r44 ++ (wsL_law_r45 ++ (wsL_law_r46 ++ (wsL_law_r47 ++ wsL_law_r48)))))))))))))), w ∈ wsL_law := fun w h => tl_33 w (List.mem_append_right _ h)
theorem tl_35 : ∀ w ∈ (wsL_law_r35 ++ (wsL_law_r36 ++ (wsL_law_r37 ++ (wsL_law_r38 ++ (wsL_law_r39 ++ (wsL_law_r40 ++ (wsL_law_r41 ++ (wsL_law_r42 ++ (wsL_law_r43 ++ (wsL_law_r44 ++ (wsL_law_r45 ++ (wsL_law_r46 ++ (wsL_law_r47 ++ wsL_law_r48))))))))))))), w ∈ wsL_law := fun w h => tl_34 w (List.mem_append_right _ h)
theorem tl_36 : ∀ w ∈ (wsL_law_r36 ++ (wsL_law_r37 ++ (wsL_law_r38 ++ (wsL_law_r39 ++ (wsL_law_r40 ++ (wsL_law_r41 ++ (wsL_law_r42 ++ (wsL_law_r43 ++ (wsL_law_r44 ++ (wsL_law_r45 ++ (wsL_law_r46 ++ (wsL_law_r47 ++ wsL_law_r48)))))))))))), w ∈ wsL_law := fun w h => tl_35 w (List.mem_append_right _ h)
theorem tl_37 : ∀ w ∈ (wsL_law_r37 ++ (wsL_law_r38 ++ (wsL_law_r39 ++ (wsL_law_r40 ++ (wsL_law_r41 ++ (wsL_law_r42 ++ (wsL_law_r43 ++ (wsL_law_r44 ++ (wsL_law_r45 ++ (wsL_law_r46 ++ (wsL_law_r47 ++ wsL_law_r48))))))))))), w ∈ wsL_law := fun w h => tl_36 w (List.mem_append_right _ h)
theorem tl_38 : ∀ w ∈ (wsL_law_r38 ++ (wsL_law_r39 ++ (wsL_law_r40 ++ (wsL_law_r41 ++ (wsL_law_r42 ++ (wsL_law_r43 ++ (wsL_law_r44 ++ (wsL_law_r45 ++ (wsL_law_r46 ++ (wsL_law_r47 ++ wsL_law_r48)))))))))), w ∈ wsL_law := fun w h => tl_37 w (List.mem_append_right _ h)
theorem tl_39 : ∀ w ∈ (wsL_law_r39 ++ (wsL_law_r40 ++ (wsL_law_r41 ++ (wsL_law_r42 ++ (wsL_law_r43 ++ (wsL_law_r44 ++ (wsL_law_r45 ++ (wsL_law_r46 ++ (wsL_law_r47 ++ wsL_law_r48))))))))), w ∈ wsL_law := fun w h => tl_38 w (List.mem_append_right _ h)
theorem tl_40 : ∀ w ∈ (wsL_law_r40 ++ (wsL_law_r41 ++ (wsL_law_r42 ++ (wsL_law_r43 ++ (wsL_law_r44 ++ (wsL_law_r45 ++ (wsL_law_r46 ++ (wsL_law_r47 ++ wsL_law_r48)))))))), w ∈ wsL_law := fun w h => tl_39 w (List.mem_append_right _ h)
theorem tl_41 : ∀ w ∈ (wsL_law_r41 ++ (wsL_law_r42 ++ (wsL_law_r43 ++ (wsL_law_r44 ++ (wsL_law_r45 ++ (wsL_law_r46 ++ (wsL_law_r47 ++ wsL_law_r48))))))), w ∈ wsL_law := fun w h => tl_40 w (List.mem_append_right _ h)
theorem tl_42 : ∀ w ∈ (wsL_law_r42 ++ (wsL_law_r43 ++ (wsL_law_r44 ++ (wsL_law_r45 ++ (wsL_law_r46 ++ (wsL_law_r47 ++ wsL_law_r48)))))), w ∈ wsL_law := fun w h => tl_41 w (List.mem_append_right _ h)
theorem tl_43 : ∀ w ∈ (wsL_law_r43 ++ (wsL_law_r44 ++ (wsL_law_r45 ++ (wsL_law_r46 ++ (wsL_law_r47 ++ wsL_law_r48))))), w ∈ wsL_law := fun w h => tl_42 w (List.mem_append_right _ h)
theorem tl_44 : ∀ w ∈ (wsL_law_r44 ++ (wsL_law_r45 ++ (wsL_law_r46 ++ (wsL_law_r47 ++ wsL_law_r48)))), w ∈ wsL_law := fun w h => tl_43 w (List.mem_append_right _ h)
theorem tl_45 : ∀ w ∈ (wsL_law_r45 ++ (wsL_law_r46 ++ (wsL_law_r47 ++ wsL_law_r48))), w ∈ wsL_law := fun w h => tl_44 w (List.mem_append_right _ h)
theorem tl_46 : ∀ w ∈ (wsL_law_r46 ++ (wsL_law_r47 ++ wsL_law_r48)), w ∈ wsL_law := fun w h => tl_45 w (List.mem_append_right _ h)
theorem tl_47 : ∀ w ∈ (wsL_law_r47 ++ wsL_law_r48), w ∈ wsL_law := fun w h => tl_46 w (List.mem_append_right _ h)
theorem tl_48 : ∀ w ∈ wsL_law_r48, w ∈ wsL_law := fun w h => tl_47 w (List.mem_append_right _ h)
theorem bk_1 : ∀ w ∈ wsL_law_r1, w ∈ wsL_law := fun w h => tl_1 w (List.mem_append_left _ h)
theorem bk_2 : ∀ w ∈ wsL_law_r2, w ∈ wsL_law := fun w h => tl_2 w (List.mem_append_left _ h)
theorem bk_3 : ∀ w ∈ wsL_law_r3, w ∈ wsL_law := fun w h => tl_3 w (List.mem_append_left _ h)
theorem bk_4 : ∀ w ∈ wsL_law_r4, w ∈ wsL_law := fun w h => tl_4 w (List.mem_append_left _ h)
theorem bk_5 : ∀ w ∈ wsL_law_r5, w ∈ wsL_law := fun w h => tl_5 w (List.mem_append_left _ h)
theorem bk_6 : ∀ w ∈ wsL_law_r6, w ∈ wsL_law := fun w h => tl_6 w (List.mem_append_left _ h)
theorem bk_7 : ∀ w ∈ wsL_law_r7, w ∈ wsL_law := fun w h => tl_7 w (List.mem_append_left _ h)
theorem bk_8 : ∀ w ∈ wsL_law_r8, w ∈ wsL_law := fun w h => tl_8 w (List.mem_append_left _ h)
theorem bk_9 : ∀ w ∈ wsL_law_r9, w ∈ wsL_law := fun w h => tl_9 w (List.mem_append_left _ h)
theorem bk_10 : ∀ w ∈ wsL_law_r10, w ∈ wsL_law := fun w h => tl_10 w (List.mem_append_left _ h)
theorem bk_11 : ∀ w ∈ wsL_law_r11, w ∈ wsL_law := fun w h => tl_11 w (List.mem_append_left _ h)
theorem bk_12 : ∀ w ∈ wsL_law_r12, w ∈ wsL_law := fun w h => tl_12 w (List.mem_append_left _ h)
theorem bk_13 : ∀ w ∈ wsL_law_r13, w ∈ wsL_law := fun w h => tl_13 w (List.mem_append_left _ h)
theorem bk_14 : ∀ w ∈ wsL_law_r14, w ∈ wsL_law := fun w h => tl_14 w (List.mem_append_left _ h)
theorem bk_15 : ∀ w ∈ wsL_law_r15, w ∈ wsL_law := fun w h => tl_15 w (List.mem_append_left _ h)
theorem bk_16 : ∀ w ∈ wsL_law_r16, w ∈ wsL_law := fun w h => tl_16 w (List.mem_append_left _ h)
theorem bk_17 : ∀ w ∈ wsL_law_r17, w ∈ wsL_law := fun w h => tl_17 w (List.mem_append_left _ h)
theorem bk_18 : ∀ w ∈ wsL_law_r18, w ∈ wsL_law := fun w h => tl_18 w (List.mem_append_left _ h)
theorem bk_19 : ∀ w ∈ wsL_law_r19, w ∈ wsL_law := fun w h => tl_19 w (List.mem_append_left _ h)
theorem bk_20 : ∀ w ∈ wsL_law_r20, w ∈ wsL_law := fun w h => tl_20 w (List.mem_append_left _ h)
theorem bk_21 : ∀ w ∈ wsL_law_r21, w ∈ wsL_law := fun w h => tl_21 w (List.mem_append_left _ h)
theorem bk_22 : ∀ w ∈ wsL_law_r22, w ∈ wsL_law := fun w h => tl_22 w (List.mem_append_left _ h)
theorem bk_23 : ∀ w ∈ wsL_law_r23, w ∈ wsL_law := fun w h => tl_23 w (List.mem_append_left _ h)
theorem bk_24 : ∀ w ∈ wsL_law_r24, w ∈ wsL_law := fun w h => tl_24 w (List.mem_append_left _ h)
theorem bk_25 : ∀ w ∈ wsL_law_r25, w ∈ wsL_law := fun w h => tl_25 w (List.mem_append_left _ h)
theorem bk_26 : ∀ w ∈ wsL_law_r26, w ∈ wsL_law := fun w h => tl_26 w (List.mem_append_left _ h)
theorem bk_27 : ∀ w ∈ wsL_law_r27, w ∈ wsL_law := fun w h => tl_27 w (List.mem_append_left _ h)
theorem bk_28 : ∀ w ∈ wsL_law_r28, w ∈ wsL_law := fun w h => tl_28 w (List.mem_append_left _ h)
theorem bk_29 : ∀ w ∈ wsL_law_r29, w ∈ wsL_law := fun w h => tl_29 w (List.mem_append_left _ h)
theorem bk_30 : ∀ w ∈ wsL_law_r30, w ∈ wsL_law := fun w h => tl_30 w (List.mem_append_left _ h)
theorem bk_31 : ∀ w ∈ wsL_law_r31, w ∈ wsL_law := fun w h => tl_31 w (List.mem_append_left _ h)
theorem bk_32 : ∀ w ∈ wsL_law_r32, w ∈ wsL_law := fun w h => tl_32 w (List.mem_append_left _ h)
theorem bk_33 : ∀ w ∈ wsL_law_r33, w ∈ wsL_law := fun w h => tl_33 w (List.mem_append_left _ h)
theorem bk_34 : ∀ w ∈ wsL_law_r34, w ∈ wsL_law := fun w h => tl_34 w (List.mem_append_left _ h)
theorem bk_35 : ∀ w ∈ wsL_law_r35, w ∈ wsL_law := fun w h => tl_35 w (List.mem_append_left _ h)
theorem bk_36 : ∀ w ∈ wsL_law_r36, w ∈ wsL_law := fun w h => tl_36 w (List.mem_append_left _ h)
theorem bk_37 : ∀ w ∈ wsL_law_r37, w ∈ wsL_law := fun w h => tl_37 w (List.mem_append_left _ h)
theorem bk_38 : ∀ w ∈ wsL_law_r38, w ∈ wsL_law := fun w h => tl_38 w (List.mem_append_left _ h)
theorem bk_39 : ∀ w ∈ wsL_law_r39, w ∈ wsL_law := fun w h => tl_39 w (List.mem_append_left _ h)
theorem bk_40 : ∀ w ∈ wsL_law_r40, w ∈ wsL_law := fun w h => tl_40 w (List.mem_append_left _ h)
theorem bk_41 : ∀ w ∈ wsL_law_r41, w ∈ wsL_law := fun w h => tl_41 w (List.mem_append_left _ h)
theorem bk_42 : ∀ w ∈ wsL_law_r42, w ∈ wsL_law := fun w h => tl_42 w (List.mem_append_left _ h)
theorem bk_43 : ∀ w ∈ wsL_law_r43, w ∈ wsL_law := fun w h => tl_43 w (List.mem_append_left _ h)
theorem bk_44 : ∀ w ∈ wsL_law_r44, w ∈ wsL_law := fun w h => tl_44 w (List.mem_append_left _ h)
theorem bk_45 : ∀ w ∈ wsL_law_r45, w ∈ wsL_law := fun w h => tl_45 w (List.mem_append_left _ h)
theorem bk_46 : ∀ w ∈ wsL_law_r46, w ∈ wsL_law := fun w h => tl_46 w (List.mem_append_left _ h)
theorem bk_47 : ∀ w ∈ wsL_law_r47, w ∈ wsL_law := fun w h => tl_47 w (List.mem_append_left _ h)
theorem bk_48 : ∀ w ∈ wsL_law_r48, w ∈ wsL_law := tl_48
theorem qw_2 : Cond.initialized RX9 ∈ wsL_law := bk_1 _ (List.mem_of_getElem? (i := 2) rfl)
theorem qw_5 : Cond.initialized RX10 ∈ wsL_law := bk_1 _ (List.mem_of_getElem? (i := 5) rfl)
theorem qw_15 : Cond.initialized RX1 ∈ wsL_law := bk_1 _ (List.mem_of_getElem? (i := 15) rfl)
theorem qw_16 : Cond.fieldLink RX9 10 "ThreeAwake" "house" "LThreeAwake$House;" ∈ wsL_law := bk_1 _ (List.mem_of_getElem? (i := 16) rfl)
theorem qw_19 : Cond.initialized RX4 ∈ wsL_law := bk_1 _ (List.mem_of_getElem? (i := 19) rfl)
theorem qw_20 : Cond.fieldLink RX9 19 "ThreeAwake" "post" "LThreeAwake$Post;" ∈ wsL_law := bk_1 _ (List.mem_of_getElem? (i := 20) rfl)
theorem qw_21 : Cond.fieldLink RX9 23 "ThreeAwake" "images" "[LThreeAwake$Post;" ∈ wsL_law := bk_1 _ (List.mem_of_getElem? (i := 21) rfl)
theorem qw_24 : Cond.initialized RX6 ∈ wsL_law := bk_2 _ (List.mem_of_getElem? (i := 0) rfl)
theorem qw_25 : Cond.fieldLink RX9 30 "ThreeAwake" "sheets" "[LThreeAwake$Sheet;" ∈ wsL_law := bk_2 _ (List.mem_of_getElem? (i := 1) rfl)
theorem qw_28 : Cond.initialized RX5 ∈ wsL_law := bk_2 _ (List.mem_of_getElem? (i := 4) rfl)
theorem qw_29 : Cond.fieldLink RX9 37 "ThreeAwake" "reader" "LThreeAwake$Reader;" ∈ wsL_law := bk_2 _ (List.mem_of_getElem? (i := 5) rfl)
theorem qw_32 : Cond.initialized RX7 ∈ wsL_law := bk_2 _ (List.mem_of_getElem? (i := 8) rfl)
theorem qw_33 : Cond.fieldLink RX9 44 "ThreeAwake" "sight" "LThreeAwake$Sight;" ∈ wsL_law := bk_2 _ (List.mem_of_getElem? (i := 9) rfl)
theorem qw_36 : Cond.initialized RX2 ∈ wsL_law := bk_2 _ (List.mem_of_getElem? (i := 12) rfl)
theorem qw_37 : Cond.fieldLink RX9 51 "ThreeAwake" "night" "LThreeAwake$Night;" ∈ wsL_law := bk_2 _ (List.mem_of_getElem? (i := 13) rfl)
theorem qw_40 : Cond.initialized RX3 ∈ wsL_law := bk_2 _ (List.mem_of_getElem? (i := 16) rfl)
theorem qw_41 : Cond.fieldLink RX9 58 "ThreeAwake" "plan" "LThreeAwake$Plan;" ∈ wsL_law := bk_2 _ (List.mem_of_getElem? (i := 17) rfl)
theorem qw_44 : Cond.initialized RX0 ∈ wsL_law := bk_2 _ (List.mem_of_getElem? (i := 20) rfl)
theorem qw_45 : Cond.fieldLink RX9 65 "ThreeAwake" "circle" "LThreeAwake$Circle;" ∈ wsL_law := bk_2 _ (List.mem_of_getElem? (i := 21) rfl)
theorem qw_48 : Cond.initialized RX8 ∈ wsL_law := bk_3 _ (List.mem_of_getElem? (i := 0) rfl)
theorem qw_49 : Cond.fieldLink RX9 72 "ThreeAwake" "slumber" "LThreeAwake$Slumber;" ∈ wsL_law := bk_3 _ (List.mem_of_getElem? (i := 1) rfl)
theorem qw_51 : Cond.fieldLink RX9 76 "ThreeAwake" "trialFacing" "[I" ∈ wsL_law := bk_3 _ (List.mem_of_getElem? (i := 3) rfl)
theorem qw_55 : Cond.fieldLink RX1 9 "ThreeAwake$House" "sisters" "I" ∈ wsL_law := bk_3 _ (List.mem_of_getElem? (i := 7) rfl)
theorem qw_56 : Cond.fieldLink RX1 15 "ThreeAwake$House" "quarters" "I" ∈ wsL_law := bk_3 _ (List.mem_of_getElem? (i := 8) rfl)
theorem qw_57 : Cond.fieldLink RX1 18 "ThreeAwake$House" "kind" "[I" ∈ wsL_law := bk_3 _ (List.mem_of_getElem? (i := 9) rfl)
theorem qw_58 : Cond.fieldLink RX1 22 "ThreeAwake$House" "sides" "[I" ∈ wsL_law := bk_3 _ (List.mem_of_getElem? (i := 10) rfl)
theorem qw_62 : Cond.fieldLink RX4 9 "ThreeAwake$Post" "facing" "[I" ∈ wsL_law := bk_3 _ (List.mem_of_getElem? (i := 14) rfl)
theorem qw_63 : Cond.fieldLink RX4 15 "ThreeAwake$Post" "tired" "[I" ∈ wsL_law := bk_3 _ (List.mem_of_getElem? (i := 15) rfl)
theorem qw_64 : Cond.fieldLink RX4 18 "ThreeAwake$Post" "need" "[I" ∈ wsL_law := bk_3 _ (List.mem_of_getElem? (i := 16) rfl)
theorem qw_65 : Cond.fieldLink RX4 21 "ThreeAwake$Post" "storm" "[I" ∈ wsL_law := bk_3 _ (List.mem_of_getElem? (i := 17) rfl)
theorem qw_66 : Cond.fieldLink RX4 24 "ThreeAwake$Post" "watch" "[I" ∈ wsL_law := bk_3 _ (List.mem_of_getElem? (i := 18) rfl)
theorem qw_67 : Cond.fieldLink RX4 27 "ThreeAwake$Post" "heard" "[I" ∈ wsL_law := bk_3 _ (List.mem_of_getElem? (i := 19) rfl)
theorem qw_68 : Cond.fieldLink RX4 30 "ThreeAwake$Post" "heardCount" "I" ∈ wsL_law := bk_3 _ (List.mem_of_getElem? (i := 20) rfl)
theorem qw_72 : Cond.fieldLink RX6 9 "ThreeAwake$Sheet" "lane" "I" ∈ wsL_law := bk_4 _ (List.mem_of_getElem? (i := 0) rfl)
theorem qw_73 : Cond.fieldLink RX6 15 "ThreeAwake$Sheet" "size" "I" ∈ wsL_law := bk_4 _ (List.mem_of_getElem? (i := 1) rfl)
theorem qw_74 : Cond.fieldLink RX6 18 "ThreeAwake$Sheet" "cell" "[I" ∈ wsL_law := bk_4 _ (List.mem_of_getElem? (i := 2) rfl)
theorem qw_79 : Cond.fieldLink RX5 11 "ThreeAwake$Reader" "tape" "[B" ∈ wsL_law := bk_4 _ (List.mem_of_getElem? (i := 7) rfl)
theorem qw_80 : Cond.fieldLink RX5 15 "ThreeAwake$Reader" "length" "I" ∈ wsL_law := bk_4 _ (List.mem_of_getElem? (i := 8) rfl)
theorem qw_81 : Cond.fieldLink RX5 19 "ThreeAwake$Reader" "fault" "I" ∈ wsL_law := bk_4 _ (List.mem_of_getElem? (i := 9) rfl)
theorem qw_82 : Cond.fieldLink RX5 22 "ThreeAwake$Reader" "place" "I" ∈ wsL_law := bk_4 _ (List.mem_of_getElem? (i := 10) rfl)
theorem qw_83 : Cond.fieldLink RX5 25 "ThreeAwake$Reader" "lines" "I" ∈ wsL_law := bk_4 _ (List.mem_of_getElem? (i := 11) rfl)
theorem qw_85 : Cond.fieldLink RX5 31 "ThreeAwake$Reader" "house" "LThreeAwake$House;" ∈ wsL_law := bk_4 _ (List.mem_of_getElem? (i := 13) rfl)
theorem qw_87 : Cond.fieldLink RX5 38 "ThreeAwake$Reader" "post" "LThreeAwake$Post;" ∈ wsL_law := bk_4 _ (List.mem_of_getElem? (i := 15) rfl)
theorem qw_88 : Cond.fieldLink RX5 42 "ThreeAwake$Reader" "token" "I" ∈ wsL_law := bk_4 _ (List.mem_of_getElem? (i := 16) rfl)
theorem qw_89 : Cond.fieldLink RX5 45 "ThreeAwake$Reader" "from" "I" ∈ wsL_law := bk_4 _ (List.mem_of_getElem? (i := 17) rfl)
theorem qw_90 : Cond.fieldLink RX5 48 "ThreeAwake$Reader" "value" "I" ∈ wsL_law := bk_4 _ (List.mem_of_getElem? (i := 18) rfl)
theorem qw_91 : Cond.fieldLink RX5 51 "ThreeAwake$Reader" "at" "I" ∈ wsL_law := bk_4 _ (List.mem_of_getElem? (i := 19) rfl)
theorem qw_92 : Cond.fieldLink RX5 54 "ThreeAwake$Reader" "quartersTold" "Z" ∈ wsL_law := bk_4 _ (List.mem_of_getElem? (i := 20) rfl)
theorem qw_93 : Cond.fieldLink RX5 58 "ThreeAwake$Reader" "needsTold" "I" ∈ wsL_law := bk_4 _ (List.mem_of_getElem? (i := 21) rfl)
theorem qw_94 : Cond.fieldLink RX5 61 "ThreeAwake$Reader" "watchesTold" "I" ∈ wsL_law := bk_4 _ (List.mem_of_getElem? (i := 22) rfl)
theorem qw_95 : Cond.fieldLink RX5 64 "ThreeAwake$Reader" "bedsTold" "I" ∈ wsL_law := bk_4 _ (List.mem_of_getElem? (i := 23) rfl)
theorem qw_99 : Cond.fieldLink RX7 9 "ThreeAwake$Sight" "seen" "[I" ∈ wsL_law := bk_5 _ (List.mem_of_getElem? (i := 3) rfl)
theorem qw_100 : Cond.fieldLink RX7 15 "ThreeAwake$Sight" "eyes" "I" ∈ wsL_law := bk_5 _ (List.mem_of_getElem? (i := 4) rfl)
theorem qw_101 : Cond.fieldLink RX7 19 "ThreeAwake$Sight" "glass" "I" ∈ wsL_law := bk_5 _ (List.mem_of_getElem? (i := 5) rfl)
theorem qw_102 : Cond.fieldLink RX7 22 "ThreeAwake$Sight" "dreaming" "I" ∈ wsL_law := bk_5 _ (List.mem_of_getElem? (i := 6) rfl)
theorem qw_106 : Cond.fieldLink RX2 9 "ThreeAwake$Night" "tired" "[I" ∈ wsL_law := bk_5 _ (List.mem_of_getElem? (i := 10) rfl)
theorem qw_107 : Cond.fieldLink RX2 15 "ThreeAwake$Night" "open" "I" ∈ wsL_law := bk_5 _ (List.mem_of_getElem? (i := 11) rfl)
theorem qw_111 : Cond.fieldLink RX3 9 "ThreeAwake$Plan" "watch" "[I" ∈ wsL_law := bk_5 _ (List.mem_of_getElem? (i := 15) rfl)
theorem qw_112 : Cond.fieldLink RX3 15 "ThreeAwake$Plan" "quarters" "I" ∈ wsL_law := bk_5 _ (List.mem_of_getElem? (i := 16) rfl)
theorem qw_113 : Cond.fieldLink RX3 19 "ThreeAwake$Plan" "ceiling" "I" ∈ wsL_law := bk_5 _ (List.mem_of_getElem? (i := 17) rfl)
theorem qw_114 : Cond.fieldLink RX3 22 "ThreeAwake$Plan" "counting" "I" ∈ wsL_law := bk_5 _ (List.mem_of_getElem? (i := 18) rfl)
theorem qw_115 : Cond.fieldLink RX3 25 "ThreeAwake$Plan" "base" "I" ∈ wsL_law := bk_5 _ (List.mem_of_getElem? (i := 19) rfl)
theorem qw_116 : Cond.fieldLink RX3 28 "ThreeAwake$Plan" "lawfulBits" "[I" ∈ wsL_law := bk_5 _ (List.mem_of_getElem? (i := 20) rfl)
theorem qw_117 : Cond.fieldLink RX3 31 "ThreeAwake$Plan" "mostToCome" "[I" ∈ wsL_law := bk_5 _ (List.mem_of_getElem? (i := 21) rfl)
theorem qw_118 : Cond.fieldLink RX3 34 "ThreeAwake$Plan" "weight" "[I" ∈ wsL_law := bk_5 _ (List.mem_of_getElem? (i := 22) rfl)
theorem qw_120 : Cond.fieldLink RX3 37 "ThreeAwake$Plan" "failed" "[J" ∈ wsL_law := bk_6 _ (List.mem_of_getElem? (i := 0) rfl)
theorem qw_124 : Cond.fieldLink RX0 9 "ThreeAwake$Circle" "watch" "[I" ∈ wsL_law := bk_6 _ (List.mem_of_getElem? (i := 4) rfl)
theorem qw_125 : Cond.fieldLink RX0 15 "ThreeAwake$Circle" "lawfulBits" "I" ∈ wsL_law := bk_6 _ (List.mem_of_getElem? (i := 5) rfl)
theorem qw_129 : Cond.fieldLink RX8 9 "ThreeAwake$Slumber" "missed" "[J" ∈ wsL_law := bk_6 _ (List.mem_of_getElem? (i := 9) rfl)
theorem qw_130 : Cond.fieldLink RX8 15 "ThreeAwake$Slumber" "all" "J" ∈ wsL_law := bk_6 _ (List.mem_of_getElem? (i := 10) rfl)
theorem qw_135 : Cond.fieldLink RX10 7 "ThreeAwakeModel" "st" "[I" ∈ wsL_law := bk_6 _ (List.mem_of_getElem? (i := 15) rfl)
theorem qw_137 : Cond.fieldLink RX10 13 "ThreeAwakeModel" "isKept" "[Z" ∈ wsL_law := bk_6 _ (List.mem_of_getElem? (i := 17) rfl)
theorem qw_138 : Cond.fieldLink RX10 17 "ThreeAwakeModel" "kinds" "[I" ∈ wsL_law := bk_6 _ (List.mem_of_getElem? (i := 18) rfl)
theorem qw_139 : Cond.fieldLink RX10 20 "ThreeAwakeModel" "sides" "[I" ∈ wsL_law := bk_6 _ (List.mem_of_getElem? (i := 19) rfl)
theorem qw_140 : Cond.fieldLink RX10 23 "ThreeAwakeModel" "draft" "[I" ∈ wsL_law := bk_6 _ (List.mem_of_getElem? (i := 20) rfl)
theorem qw_141 : Cond.fieldLink RX10 26 "ThreeAwakeModel" "dKinds" "[I" ∈ wsL_law := bk_6 _ (List.mem_of_getElem? (i := 21) rfl)
theorem qw_142 : Cond.fieldLink RX10 29 "ThreeAwakeModel" "dSides" "[I" ∈ wsL_law := bk_6 _ (List.mem_of_getElem? (i := 22) rfl)
theorem qw_143 : Cond.fieldLink RX10 32 "ThreeAwakeModel" "tape" "[I" ∈ wsL_law := bk_6 _ (List.mem_of_getElem? (i := 23) rfl)
theorem qw_144 : Cond.fieldLink RX10 35 "ThreeAwakeModel" "tiredNow" "[I" ∈ wsL_law := bk_7 _ (List.mem_of_getElem? (i := 0) rfl)
theorem qw_145 : Cond.fieldLink RX10 38 "ThreeAwakeModel" "eyeOf" "[I" ∈ wsL_law := bk_7 _ (List.mem_of_getElem? (i := 1) rfl)
theorem qw_146 : Cond.fieldLink RX10 41 "ThreeAwakeModel" "allowed" "[Z" ∈ wsL_law := bk_7 _ (List.mem_of_getElem? (i := 2) rfl)
theorem qw_147 : Cond.fieldLink RX10 44 "ThreeAwakeModel" "can" "[Z" ∈ wsL_law := bk_7 _ (List.mem_of_getElem? (i := 3) rfl)
theorem qw_148 : Cond.fieldLink RX10 47 "ThreeAwakeModel" "wasFacing" "[I" ∈ wsL_law := bk_7 _ (List.mem_of_getElem? (i := 4) rfl)
theorem qw_149 : Cond.fieldLink RX10 50 "ThreeAwakeModel" "lanes" "[I" ∈ wsL_law := bk_7 _ (List.mem_of_getElem? (i := 5) rfl)
theorem qw_150 : Cond.fieldLink RX10 53 "ThreeAwakeModel" "sizes" "[I" ∈ wsL_law := bk_7 _ (List.mem_of_getElem? (i := 6) rfl)
theorem qw_151 : Cond.fieldLink RX10 56 "ThreeAwakeModel" "cells" "[I" ∈ wsL_law := bk_7 _ (List.mem_of_getElem? (i := 7) rfl)
theorem qw_152 : Cond.fieldLink RX10 59 "ThreeAwakeModel" "wasWatch" "[I" ∈ wsL_law := bk_7 _ (List.mem_of_getElem? (i := 8) rfl)
theorem qw_153 : Cond.methodLink RX10 62 yX10_firstDraft ∈ wsL_law := bk_7 _ (List.mem_of_getElem? (i := 9) rfl)
theorem qw_154 : Cond.instanceMethod yX10_firstDraft ∈ wsL_law := bk_7 _ (List.mem_of_getElem? (i := 10) rfl)
theorem qw_155 : Cond.selects RX10 yX10_firstDraft yX10_firstDraft ∈ wsL_law := bk_7 _ (List.mem_of_getElem? (i := 11) rfl)
theorem qw_156 : Cond.code yX10_firstDraft cX10_firstDraft 2 none ∈ wsL_law := bk_7 _ (List.mem_of_getElem? (i := 12) rfl)
theorem qw_157 : Cond.fieldLink RX10 68 "ThreeAwakeModel" "dSisters" "I" ∈ wsL_law := bk_7 _ (List.mem_of_getElem? (i := 13) rfl)
theorem qw_158 : Cond.fieldLink RX10 72 "ThreeAwakeModel" "dQuarters" "I" ∈ wsL_law := bk_7 _ (List.mem_of_getElem? (i := 14) rfl)
theorem qw_159 : Cond.fieldLink RX10 75 "ThreeAwakeModel" "hasQuarters" "Z" ∈ wsL_law := bk_7 _ (List.mem_of_getElem? (i := 15) rfl)
theorem qw_160 : Cond.fieldLink RX10 79 "ThreeAwakeModel" "toldNeeds" "I" ∈ wsL_law := bk_7 _ (List.mem_of_getElem? (i := 16) rfl)
theorem qw_161 : Cond.fieldLink RX10 82 "ThreeAwakeModel" "toldWatches" "I" ∈ wsL_law := bk_7 _ (List.mem_of_getElem? (i := 17) rfl)
theorem qw_162 : Cond.fieldLink RX10 85 "ThreeAwakeModel" "toldBeds" "I" ∈ wsL_law := bk_7 _ (List.mem_of_getElem? (i := 18) rfl)
theorem qw_163 : Cond.fieldLink RX10 88 "ThreeAwakeModel" "highestSister" "I" ∈ wsL_law := bk_7 _ (List.mem_of_getElem? (i := 19) rfl)
theorem qw_164 : Cond.fieldLink RX10 91 "ThreeAwakeModel" "highestQuarter" "I" ∈ wsL_law := bk_7 _ (List.mem_of_getElem? (i := 20) rfl)
theorem qw_165 : Cond.methodLink RX10 65 yX10_keepDraft ∈ wsL_law := bk_7 _ (List.mem_of_getElem? (i := 21) rfl)
theorem qw_166 : Cond.instanceMethod yX10_keepDraft ∈ wsL_law := bk_7 _ (List.mem_of_getElem? (i := 22) rfl)
theorem qw_167 : Cond.selects RX10 yX10_keepDraft yX10_keepDraft ∈ wsL_law := bk_7 _ (List.mem_of_getElem? (i := 23) rfl)
theorem qw_168 : Cond.code yX10_keepDraft cX10_keepDraft 4 none ∈ wsL_law := bk_8 _ (List.mem_of_getElem? (i := 0) rfl)
theorem qw_169 : Cond.fieldLink RX10 94 "ThreeAwakeModel" "sisters" "I" ∈ wsL_law := bk_8 _ (List.mem_of_getElem? (i := 1) rfl)
theorem qw_170 : Cond.fieldLink RX10 97 "ThreeAwakeModel" "quarters" "I" ∈ wsL_law := bk_8 _ (List.mem_of_getElem? (i := 2) rfl)
theorem qw_171 : Cond.fieldLink RX10 104 "ThreeAwakeModel" "watches" "I" ∈ wsL_law := bk_8 _ (List.mem_of_getElem? (i := 3) rfl)
theorem qw_172 : Cond.methodLink RX10 100 yX10_power ∈ wsL_law := bk_8 _ (List.mem_of_getElem? (i := 4) rfl)
theorem qw_173 : Cond.static yX10_power ∈ wsL_law := bk_8 _ (List.mem_of_getElem? (i := 5) rfl)
theorem qw_174 : Cond.code yX10_power cX10_power 4 (some .int) ∈ wsL_law := bk_8 _ (List.mem_of_getElem? (i := 6) rfl)
theorem qw_179 : Cond.methodLink RX9 80 yX5_append ∈ wsL_law := bk_8 _ (List.mem_of_getElem? (i := 11) rfl)
theorem qw_180 : Cond.instanceMethod yX5_append ∈ wsL_law := bk_8 _ (List.mem_of_getElem? (i := 12) rfl)
theorem qw_181 : Cond.selects RX5 yX5_append yX5_append ∈ wsL_law := bk_8 _ (List.mem_of_getElem? (i := 13) rfl)
theorem qw_182 : Cond.code yX5_append cX5_append 4 (some .int) ∈ wsL_law := bk_8 _ (List.mem_of_getElem? (i := 14) rfl)
theorem qw_187 : Cond.fieldLink RX10 107 "ThreeAwakeModel" "taped" "I" ∈ wsL_law := bk_8 _ (List.mem_of_getElem? (i := 19) rfl)
theorem qw_188 : Cond.constantLong RX10 110 (255) ∈ wsL_law := bk_8 _ (List.mem_of_getElem? (i := 20) rfl)
theorem qw_193 : Cond.fieldLink RX9 84 "ThreeAwake$Reader" "length" "I" ∈ wsL_law := bk_9 _ (List.mem_of_getElem? (i := 1) rfl)
theorem qw_198 : Cond.methodLink RX10 112 yX10_in ∈ wsL_law := bk_9 _ (List.mem_of_getElem? (i := 6) rfl)
theorem qw_199 : Cond.static yX10_in ∈ wsL_law := bk_9 _ (List.mem_of_getElem? (i := 7) rfl)
theorem qw_200 : Cond.code yX10_in cX10_in 6 (some .boolean) ∈ wsL_law := bk_9 _ (List.mem_of_getElem? (i := 8) rfl)
theorem qw_205 : Cond.fieldLink RX9 92 "ThreeAwake$Reader" "place" "I" ∈ wsL_law := bk_9 _ (List.mem_of_getElem? (i := 13) rfl)
theorem qw_206 : Cond.fieldLink RX9 95 "ThreeAwake$Reader" "house" "LThreeAwake$House;" ∈ wsL_law := bk_9 _ (List.mem_of_getElem? (i := 14) rfl)
theorem qw_207 : Cond.fieldLink RX9 100 "ThreeAwake$Reader" "post" "LThreeAwake$Post;" ∈ wsL_law := bk_9 _ (List.mem_of_getElem? (i := 15) rfl)
theorem qw_208 : Cond.fieldLink RX9 104 "ThreeAwake" "imagesKept" "I" ∈ wsL_law := bk_9 _ (List.mem_of_getElem? (i := 16) rfl)
theorem qw_209 : Cond.fieldLink RX9 107 "ThreeAwake$Reader" "lines" "I" ∈ wsL_law := bk_9 _ (List.mem_of_getElem? (i := 17) rfl)
theorem qw_210 : Cond.methodLink RX9 88 yX5_readAll ∈ wsL_law := bk_9 _ (List.mem_of_getElem? (i := 18) rfl)
theorem qw_211 : Cond.instanceMethod yX5_readAll ∈ wsL_law := bk_9 _ (List.mem_of_getElem? (i := 19) rfl)
theorem qw_212 : Cond.selects RX5 yX5_readAll yX5_readAll ∈ wsL_law := bk_9 _ (List.mem_of_getElem? (i := 20) rfl)
theorem qw_213 : Cond.code yX5_readAll cX5_readAll 2 (some .boolean) ∈ wsL_law := bk_9 _ (List.mem_of_getElem? (i := 21) rfl)
theorem qw_214 : Cond.methodLink RX5 67 yX5_begin ∈ wsL_law := bk_9 _ (List.mem_of_getElem? (i := 22) rfl)
theorem qw_215 : Cond.instanceMethod yX5_begin ∈ wsL_law := bk_9 _ (List.mem_of_getElem? (i := 23) rfl)
theorem qw_216 : Cond.selects RX5 yX5_begin yX5_begin ∈ wsL_law := bk_10 _ (List.mem_of_getElem? (i := 0) rfl)
theorem qw_217 : Cond.code yX5_begin cX5_begin 1 none ∈ wsL_law := bk_10 _ (List.mem_of_getElem? (i := 1) rfl)
theorem qw_218 : Cond.methodLink RX5 80 yX1_empty ∈ wsL_law := bk_10 _ (List.mem_of_getElem? (i := 2) rfl)
theorem qw_219 : Cond.instanceMethod yX1_empty ∈ wsL_law := bk_10 _ (List.mem_of_getElem? (i := 3) rfl)
theorem qw_220 : Cond.selects RX1 yX1_empty yX1_empty ∈ wsL_law := bk_10 _ (List.mem_of_getElem? (i := 4) rfl)
theorem qw_221 : Cond.code yX1_empty cX1_empty 1 none ∈ wsL_law := bk_10 _ (List.mem_of_getElem? (i := 5) rfl)
theorem qw_222 : Cond.methodLink RX1 31 yJ7_fill_53178 ∈ wsL_law := bk_10 _ (List.mem_of_getElem? (i := 6) rfl)
theorem qw_223 : Cond.static yJ7_fill_53178 ∈ wsL_law := bk_10 _ (List.mem_of_getElem? (i := 7) rfl)
theorem qw_224 : Cond.initialized RJ7 ∈ wsL_law := bk_10 _ (List.mem_of_getElem? (i := 8) rfl)
theorem qw_225 : Cond.code yJ7_fill_53178 cJ7_fill_53178 4 none ∈ wsL_law := bk_10 _ (List.mem_of_getElem? (i := 9) rfl)
theorem qw_226 : Cond.methodLink RX5 83 yX4_empty ∈ wsL_law := bk_10 _ (List.mem_of_getElem? (i := 10) rfl)
theorem qw_227 : Cond.instanceMethod yX4_empty ∈ wsL_law := bk_10 _ (List.mem_of_getElem? (i := 11) rfl)
theorem qw_228 : Cond.selects RX4 yX4_empty yX4_empty ∈ wsL_law := bk_10 _ (List.mem_of_getElem? (i := 12) rfl)
theorem qw_229 : Cond.code yX4_empty cX4_empty 1 none ∈ wsL_law := bk_10 _ (List.mem_of_getElem? (i := 13) rfl)
theorem qw_230 : Cond.methodLink RX4 40 yJ7_fill_53178 ∈ wsL_law := bk_10 _ (List.mem_of_getElem? (i := 14) rfl)
theorem qw_231 : Cond.methodLink RX5 70 yX5_next ∈ wsL_law := bk_10 _ (List.mem_of_getElem? (i := 15) rfl)
theorem qw_232 : Cond.instanceMethod yX5_next ∈ wsL_law := bk_10 _ (List.mem_of_getElem? (i := 16) rfl)
theorem qw_233 : Cond.selects RX5 yX5_next yX5_next ∈ wsL_law := bk_10 _ (List.mem_of_getElem? (i := 17) rfl)
theorem qw_234 : Cond.code yX5_next cX5_next 1 (some .boolean) ∈ wsL_law := bk_10 _ (List.mem_of_getElem? (i := 18) rfl)
theorem qw_235 : Cond.methodLink RX5 170 yX5_isLetter ∈ wsL_law := bk_10 _ (List.mem_of_getElem? (i := 19) rfl)
theorem qw_236 : Cond.static yX5_isLetter ∈ wsL_law := bk_10 _ (List.mem_of_getElem? (i := 20) rfl)
theorem qw_237 : Cond.code yX5_isLetter cX5_isLetter 1 (some .boolean) ∈ wsL_law := bk_10 _ (List.mem_of_getElem? (i := 21) rfl)
theorem qw_238 : Cond.methodLink RX5 174 yX5_letters ∈ wsL_law := bk_10 _ (List.mem_of_getElem? (i := 22) rfl)
theorem qw_239 : Cond.instanceMethod yX5_letters ∈ wsL_law := bk_10 _ (List.mem_of_getElem? (i := 23) rfl)
theorem qw_240 : Cond.selects RX5 yX5_letters yX5_letters ∈ wsL_law := bk_11 _ (List.mem_of_getElem? (i := 0) rfl)
theorem qw_241 : Cond.code yX5_letters cX5_letters 1 none ∈ wsL_law := bk_11 _ (List.mem_of_getElem? (i := 1) rfl)
theorem qw_242 : Cond.methodLink RX5 177 yX5_isFigure ∈ wsL_law := bk_11 _ (List.mem_of_getElem? (i := 2) rfl)
theorem qw_243 : Cond.static yX5_isFigure ∈ wsL_law := bk_11 _ (List.mem_of_getElem? (i := 3) rfl)
theorem qw_244 : Cond.code yX5_isFigure cX5_isFigure 1 (some .boolean) ∈ wsL_law := bk_11 _ (List.mem_of_getElem? (i := 4) rfl)
theorem qw_245 : Cond.methodLink RX5 180 yX5_figures ∈ wsL_law := bk_11 _ (List.mem_of_getElem? (i := 5) rfl)
theorem qw_246 : Cond.instanceMethod yX5_figures ∈ wsL_law := bk_11 _ (List.mem_of_getElem? (i := 6) rfl)
theorem qw_247 : Cond.selects RX5 yX5_figures yX5_figures ∈ wsL_law := bk_11 _ (List.mem_of_getElem? (i := 7) rfl)
theorem qw_248 : Cond.code yX5_figures cX5_figures 1 (some .boolean) ∈ wsL_law := bk_11 _ (List.mem_of_getElem? (i := 8) rfl)
theorem qw_249 : Cond.methodLink RX5 84 yX5_refuse ∈ wsL_law := bk_11 _ (List.mem_of_getElem? (i := 9) rfl)
theorem qw_250 : Cond.instanceMethod yX5_refuse ∈ wsL_law := bk_11 _ (List.mem_of_getElem? (i := 10) rfl)
theorem qw_251 : Cond.selects RX5 yX5_refuse yX5_refuse ∈ wsL_law := bk_11 _ (List.mem_of_getElem? (i := 11) rfl)
theorem qw_252 : Cond.code yX5_refuse cX5_refuse 3 (some .boolean) ∈ wsL_law := bk_11 _ (List.mem_of_getElem? (i := 12) rfl)
theorem qw_253 : Cond.methodLink RX5 74 yX5_agrees ∈ wsL_law := bk_11 _ (List.mem_of_getElem? (i := 13) rfl)
theorem qw_254 : Cond.instanceMethod yX5_agrees ∈ wsL_law := bk_11 _ (List.mem_of_getElem? (i := 14) rfl)
theorem qw_255 : Cond.selects RX5 yX5_agrees yX5_agrees ∈ wsL_law := bk_11 _ (List.mem_of_getElem? (i := 15) rfl)
theorem qw_256 : Cond.code yX5_agrees cX5_agrees 3 (some .boolean) ∈ wsL_law := bk_11 _ (List.mem_of_getElem? (i := 16) rfl)
theorem qw_257 : Cond.fieldLink RX5 152 "ThreeAwake$Post" "storm" "[I" ∈ wsL_law := bk_11 _ (List.mem_of_getElem? (i := 17) rfl)
theorem qw_258 : Cond.fieldLink RX5 125 "ThreeAwake$House" "sisters" "I" ∈ wsL_law := bk_11 _ (List.mem_of_getElem? (i := 18) rfl)
theorem qw_259 : Cond.fieldLink RX5 148 "ThreeAwake$House" "quarters" "I" ∈ wsL_law := bk_11 _ (List.mem_of_getElem? (i := 19) rfl)
theorem qw_260 : Cond.fieldLink RX5 154 "ThreeAwake$Post" "watch" "[I" ∈ wsL_law := bk_11 _ (List.mem_of_getElem? (i := 20) rfl)
theorem qw_261 : Cond.methodLink RX5 159 yX1_hasWatch ∈ wsL_law := bk_11 _ (List.mem_of_getElem? (i := 21) rfl)
theorem qw_262 : Cond.instanceMethod yX1_hasWatch ∈ wsL_law := bk_11 _ (List.mem_of_getElem? (i := 22) rfl)
theorem qw_263 : Cond.selects RX1 yX1_hasWatch yX1_hasWatch ∈ wsL_law := bk_11 _ (List.mem_of_getElem? (i := 23) rfl)
theorem qw_264 : Cond.code yX1_hasWatch cX1_hasWatch 2 (some .boolean) ∈ wsL_law := bk_12 _ (List.mem_of_getElem? (i := 0) rfl)
theorem qw_265 : Cond.methodLink RX1 37 yX1_watches ∈ wsL_law := bk_12 _ (List.mem_of_getElem? (i := 1) rfl)
theorem qw_266 : Cond.instanceMethod yX1_watches ∈ wsL_law := bk_12 _ (List.mem_of_getElem? (i := 2) rfl)
theorem qw_267 : Cond.selects RX1 yX1_watches yX1_watches ∈ wsL_law := bk_12 _ (List.mem_of_getElem? (i := 3) rfl)
theorem qw_268 : Cond.code yX1_watches cX1_watches 1 (some .int) ∈ wsL_law := bk_12 _ (List.mem_of_getElem? (i := 4) rfl)
theorem qw_269 : Cond.methodLink RX5 77 yX5_line ∈ wsL_law := bk_12 _ (List.mem_of_getElem? (i := 5) rfl)
theorem qw_270 : Cond.instanceMethod yX5_line ∈ wsL_law := bk_12 _ (List.mem_of_getElem? (i := 6) rfl)
theorem qw_271 : Cond.selects RX5 yX5_line yX5_line ∈ wsL_law := bk_12 _ (List.mem_of_getElem? (i := 7) rfl)
theorem qw_272 : Cond.code yX5_line cX5_line 1 (some .boolean) ∈ wsL_law := bk_12 _ (List.mem_of_getElem? (i := 8) rfl)
theorem qw_273 : Cond.methodLink RX5 90 yX5_isName ∈ wsL_law := bk_12 _ (List.mem_of_getElem? (i := 9) rfl)
theorem qw_274 : Cond.instanceMethod yX5_isName ∈ wsL_law := bk_12 _ (List.mem_of_getElem? (i := 10) rfl)
theorem qw_275 : Cond.selects RX5 yX5_isName yX5_isName ∈ wsL_law := bk_12 _ (List.mem_of_getElem? (i := 11) rfl)
theorem qw_276 : Cond.code yX5_isName cX5_isName 3 (some .boolean) ∈ wsL_law := bk_12 _ (List.mem_of_getElem? (i := 12) rfl)
theorem qw_277 : Cond.methodLink RX5 183 yJ0_length_8abf5 ∈ wsL_law := bk_12 _ (List.mem_of_getElem? (i := 13) rfl)
theorem qw_278 : Cond.instanceMethod yJ0_length_8abf5 ∈ wsL_law := bk_12 _ (List.mem_of_getElem? (i := 14) rfl)
theorem qw_279 : Cond.selects RJ0 yJ0_length_8abf5 yJ0_length_8abf5 ∈ wsL_law := bk_12 _ (List.mem_of_getElem? (i := 15) rfl)
theorem qw_280 : Cond.initialized RJ0 ∈ wsL_law := bk_12 _ (List.mem_of_getElem? (i := 16) rfl)
theorem qw_281 : Cond.code yJ0_length_8abf5 cJ0_length_8abf5 1 (some .int) ∈ wsL_law := bk_12 _ (List.mem_of_getElem? (i := 17) rfl)
theorem qw_282 : Cond.fieldLink RJ0 9 "java/lang/String" "value" "[B" ∈ wsL_law := bk_12 _ (List.mem_of_getElem? (i := 18) rfl)
theorem qw_283 : Cond.methodLink RJ0 335 yJ0_coder_7d493 ∈ wsL_law := bk_12 _ (List.mem_of_getElem? (i := 19) rfl)
theorem qw_284 : Cond.instanceMethod yJ0_coder_7d493 ∈ wsL_law := bk_12 _ (List.mem_of_getElem? (i := 20) rfl)
theorem qw_285 : Cond.selects RJ0 yJ0_coder_7d493 yJ0_coder_7d493 ∈ wsL_law := bk_12 _ (List.mem_of_getElem? (i := 21) rfl)
theorem qw_286 : Cond.code yJ0_coder_7d493 cJ0_coder_7d493 1 (some .byte) ∈ wsL_law := bk_12 _ (List.mem_of_getElem? (i := 22) rfl)
theorem qw_287 : Cond.fieldLink RJ0 38 "java/lang/String" "COMPACT_STRINGS" "Z" ∈ wsL_law := bk_12 _ (List.mem_of_getElem? (i := 23) rfl)
theorem qw_288 : Cond.fieldLink RJ0 15 "java/lang/String" "coder" "B" ∈ wsL_law := bk_13 _ (List.mem_of_getElem? (i := 0) rfl)
theorem qw_289 : Cond.methodLink RX5 188 yJ0_charAt_5068e ∈ wsL_law := bk_13 _ (List.mem_of_getElem? (i := 1) rfl)
theorem qw_290 : Cond.instanceMethod yJ0_charAt_5068e ∈ wsL_law := bk_13 _ (List.mem_of_getElem? (i := 2) rfl)
theorem qw_291 : Cond.selects RJ0 yJ0_charAt_5068e yJ0_charAt_5068e ∈ wsL_law := bk_13 _ (List.mem_of_getElem? (i := 3) rfl)
theorem qw_292 : Cond.code yJ0_charAt_5068e cJ0_charAt_5068e 2 (some .char) ∈ wsL_law := bk_13 _ (List.mem_of_getElem? (i := 4) rfl)
theorem qw_293 : Cond.methodLink RJ0 492 yJ0_isLatin1_aae02 ∈ wsL_law := bk_13 _ (List.mem_of_getElem? (i := 5) rfl)
theorem qw_294 : Cond.instanceMethod yJ0_isLatin1_aae02 ∈ wsL_law := bk_13 _ (List.mem_of_getElem? (i := 6) rfl)
theorem qw_295 : Cond.selects RJ0 yJ0_isLatin1_aae02 yJ0_isLatin1_aae02 ∈ wsL_law := bk_13 _ (List.mem_of_getElem? (i := 7) rfl)
theorem qw_296 : Cond.code yJ0_isLatin1_aae02 cJ0_isLatin1_aae02 1 (some .boolean) ∈ wsL_law := bk_13 _ (List.mem_of_getElem? (i := 8) rfl)
theorem qw_297 : Cond.methodLink RJ0 495 yJ1_charAt_3b067 ∈ wsL_law := bk_13 _ (List.mem_of_getElem? (i := 9) rfl)
theorem qw_298 : Cond.static yJ1_charAt_3b067 ∈ wsL_law := bk_13 _ (List.mem_of_getElem? (i := 10) rfl)
theorem qw_299 : Cond.initialized RJ1 ∈ wsL_law := bk_13 _ (List.mem_of_getElem? (i := 11) rfl)
theorem qw_300 : Cond.code yJ1_charAt_3b067 cJ1_charAt_3b067 2 (some .char) ∈ wsL_law := bk_13 _ (List.mem_of_getElem? (i := 12) rfl)
theorem qw_301 : Cond.methodLink RJ1 9 yJ0_checkIndex_df160 ∈ wsL_law := bk_13 _ (List.mem_of_getElem? (i := 13) rfl)
theorem qw_302 : Cond.static yJ0_checkIndex_df160 ∈ wsL_law := bk_13 _ (List.mem_of_getElem? (i := 14) rfl)
theorem qw_303 : Cond.code yJ0_checkIndex_df160 cJ0_checkIndex_df160 2 none ∈ wsL_law := bk_13 _ (List.mem_of_getElem? (i := 15) rfl)
theorem qw_304 : Cond.fieldLink RJ0 1053 "jdk/internal/util/Preconditions" "SIOOBE_FORMATTER" "Ljava/util/function/BiFunction;" ∈ wsL_law := bk_13 _ (List.mem_of_getElem? (i := 16) rfl)
theorem qw_305 : Cond.methodLink RJ0 1059 yJ3_checkIndex_8e157 ∈ wsL_law := bk_13 _ (List.mem_of_getElem? (i := 17) rfl)
theorem qw_306 : Cond.static yJ3_checkIndex_8e157 ∈ wsL_law := bk_13 _ (List.mem_of_getElem? (i := 18) rfl)
theorem qw_307 : Cond.initialized RJ3 ∈ wsL_law := bk_13 _ (List.mem_of_getElem? (i := 19) rfl)
theorem qw_308 : Cond.code yJ3_checkIndex_8e157 cJ3_checkIndex_8e157 3 (some .int) ∈ wsL_law := bk_13 _ (List.mem_of_getElem? (i := 20) rfl)
theorem qw_326 : Cond.methodLink RX5 94 yX5_sisterLine ∈ wsL_law := bk_14 _ (List.mem_of_getElem? (i := 14) rfl)
theorem qw_327 : Cond.instanceMethod yX5_sisterLine ∈ wsL_law := bk_14 _ (List.mem_of_getElem? (i := 15) rfl)
theorem qw_328 : Cond.selects RX5 yX5_sisterLine yX5_sisterLine ∈ wsL_law := bk_14 _ (List.mem_of_getElem? (i := 16) rfl)
theorem qw_329 : Cond.code yX5_sisterLine cX5_sisterLine 3 (some .boolean) ∈ wsL_law := bk_14 _ (List.mem_of_getElem? (i := 17) rfl)
theorem qw_330 : Cond.fieldLink RX5 131 "ThreeAwake$House" "kind" "[I" ∈ wsL_law := bk_14 _ (List.mem_of_getElem? (i := 18) rfl)
theorem qw_331 : Cond.fieldLink RX5 138 "ThreeAwake$House" "sides" "[I" ∈ wsL_law := bk_14 _ (List.mem_of_getElem? (i := 19) rfl)
theorem qw_332 : Cond.fieldLink RX5 141 "ThreeAwake$Post" "tired" "[I" ∈ wsL_law := bk_14 _ (List.mem_of_getElem? (i := 20) rfl)
theorem qw_333 : Cond.methodLink RX5 128 yX5_kindName ∈ wsL_law := bk_14 _ (List.mem_of_getElem? (i := 21) rfl)
theorem qw_334 : Cond.instanceMethod yX5_kindName ∈ wsL_law := bk_14 _ (List.mem_of_getElem? (i := 22) rfl)
theorem qw_335 : Cond.selects RX5 yX5_kindName yX5_kindName ∈ wsL_law := bk_14 _ (List.mem_of_getElem? (i := 23) rfl)
theorem qw_336 : Cond.code yX5_kindName cX5_kindName 1 (some .boolean) ∈ wsL_law := bk_15 _ (List.mem_of_getElem? (i := 0) rfl)
theorem qw_337 : Cond.methodLink RX5 135 yX5_number ∈ wsL_law := bk_15 _ (List.mem_of_getElem? (i := 1) rfl)
theorem qw_338 : Cond.instanceMethod yX5_number ∈ wsL_law := bk_15 _ (List.mem_of_getElem? (i := 2) rfl)
theorem qw_339 : Cond.selects RX5 yX5_number yX5_number ∈ wsL_law := bk_15 _ (List.mem_of_getElem? (i := 3) rfl)
theorem qw_340 : Cond.code yX5_number cX5_number 3 (some .boolean) ∈ wsL_law := bk_15 _ (List.mem_of_getElem? (i := 4) rfl)
theorem qw_341 : Cond.methodLink RX5 144 yX1_isGlassEye ∈ wsL_law := bk_15 _ (List.mem_of_getElem? (i := 5) rfl)
theorem qw_342 : Cond.instanceMethod yX1_isGlassEye ∈ wsL_law := bk_15 _ (List.mem_of_getElem? (i := 6) rfl)
theorem qw_343 : Cond.selects RX1 yX1_isGlassEye yX1_isGlassEye ∈ wsL_law := bk_15 _ (List.mem_of_getElem? (i := 7) rfl)
theorem qw_344 : Cond.code yX1_isGlassEye cX1_isGlassEye 2 (some .boolean) ∈ wsL_law := bk_15 _ (List.mem_of_getElem? (i := 8) rfl)
theorem qw_345 : Cond.methodLink RX5 97 yX5_sign ∈ wsL_law := bk_15 _ (List.mem_of_getElem? (i := 9) rfl)
theorem qw_346 : Cond.instanceMethod yX5_sign ∈ wsL_law := bk_15 _ (List.mem_of_getElem? (i := 10) rfl)
theorem qw_347 : Cond.selects RX5 yX5_sign yX5_sign ∈ wsL_law := bk_15 _ (List.mem_of_getElem? (i := 11) rfl)
theorem qw_348 : Cond.code yX5_sign cX5_sign 1 (some .boolean) ∈ wsL_law := bk_15 _ (List.mem_of_getElem? (i := 12) rfl)
theorem qw_349 : Cond.methodLink RX5 102 yX5_quartersLine ∈ wsL_law := bk_15 _ (List.mem_of_getElem? (i := 13) rfl)
theorem qw_350 : Cond.instanceMethod yX5_quartersLine ∈ wsL_law := bk_15 _ (List.mem_of_getElem? (i := 14) rfl)
theorem qw_351 : Cond.selects RX5 yX5_quartersLine yX5_quartersLine ∈ wsL_law := bk_15 _ (List.mem_of_getElem? (i := 15) rfl)
theorem qw_352 : Cond.code yX5_quartersLine cX5_quartersLine 1 (some .boolean) ∈ wsL_law := bk_15 _ (List.mem_of_getElem? (i := 16) rfl)
theorem qw_353 : Cond.methodLink RX5 107 yX5_needLine ∈ wsL_law := bk_15 _ (List.mem_of_getElem? (i := 17) rfl)
theorem qw_354 : Cond.instanceMethod yX5_needLine ∈ wsL_law := bk_15 _ (List.mem_of_getElem? (i := 18) rfl)
theorem qw_355 : Cond.selects RX5 yX5_needLine yX5_needLine ∈ wsL_law := bk_15 _ (List.mem_of_getElem? (i := 19) rfl)
theorem qw_356 : Cond.code yX5_needLine cX5_needLine 2 (some .boolean) ∈ wsL_law := bk_15 _ (List.mem_of_getElem? (i := 20) rfl)
theorem qw_357 : Cond.fieldLink RX5 150 "ThreeAwake$Post" "need" "[I" ∈ wsL_law := bk_15 _ (List.mem_of_getElem? (i := 21) rfl)
theorem qw_358 : Cond.methodLink RX5 112 yX5_stormLine ∈ wsL_law := bk_15 _ (List.mem_of_getElem? (i := 22) rfl)
theorem qw_359 : Cond.instanceMethod yX5_stormLine ∈ wsL_law := bk_15 _ (List.mem_of_getElem? (i := 23) rfl)
theorem qw_360 : Cond.selects RX5 yX5_stormLine yX5_stormLine ∈ wsL_law := bk_16 _ (List.mem_of_getElem? (i := 0) rfl)
theorem qw_361 : Cond.code yX5_stormLine cX5_stormLine 2 (some .boolean) ∈ wsL_law := bk_16 _ (List.mem_of_getElem? (i := 1) rfl)
theorem qw_362 : Cond.methodLink RX5 117 yX5_watchLine ∈ wsL_law := bk_16 _ (List.mem_of_getElem? (i := 2) rfl)
theorem qw_363 : Cond.instanceMethod yX5_watchLine ∈ wsL_law := bk_16 _ (List.mem_of_getElem? (i := 3) rfl)
theorem qw_364 : Cond.selects RX5 yX5_watchLine yX5_watchLine ∈ wsL_law := bk_16 _ (List.mem_of_getElem? (i := 4) rfl)
theorem qw_365 : Cond.code yX5_watchLine cX5_watchLine 2 (some .boolean) ∈ wsL_law := bk_16 _ (List.mem_of_getElem? (i := 5) rfl)
theorem qw_366 : Cond.methodLink RX5 122 yX5_bedLine ∈ wsL_law := bk_16 _ (List.mem_of_getElem? (i := 6) rfl)
theorem qw_367 : Cond.instanceMethod yX5_bedLine ∈ wsL_law := bk_16 _ (List.mem_of_getElem? (i := 7) rfl)
theorem qw_368 : Cond.selects RX5 yX5_bedLine yX5_bedLine ∈ wsL_law := bk_16 _ (List.mem_of_getElem? (i := 8) rfl)
theorem qw_369 : Cond.code yX5_bedLine cX5_bedLine 2 (some .boolean) ∈ wsL_law := bk_16 _ (List.mem_of_getElem? (i := 9) rfl)
theorem qw_370 : Cond.fieldLink RX5 156 "ThreeAwake$Post" "facing" "[I" ∈ wsL_law := bk_16 _ (List.mem_of_getElem? (i := 10) rfl)
theorem qw_371 : Cond.methodLink RX9 96 yX1_become ∈ wsL_law := bk_16 _ (List.mem_of_getElem? (i := 11) rfl)
theorem qw_372 : Cond.instanceMethod yX1_become ∈ wsL_law := bk_16 _ (List.mem_of_getElem? (i := 12) rfl)
theorem qw_373 : Cond.selects RX1 yX1_become yX1_become ∈ wsL_law := bk_16 _ (List.mem_of_getElem? (i := 13) rfl)
theorem qw_374 : Cond.code yX1_become cX1_become 2 none ∈ wsL_law := bk_16 _ (List.mem_of_getElem? (i := 14) rfl)
theorem qw_375 : Cond.methodLink RX1 25 arraycopyName ∈ wsL_law := bk_16 _ (List.mem_of_getElem? (i := 15) rfl)
theorem qw_376 : Cond.native arraycopyName ∈ wsL_law := bk_16 _ (List.mem_of_getElem? (i := 16) rfl)
theorem qw_377 : Cond.static arraycopyName ∈ wsL_law := bk_16 _ (List.mem_of_getElem? (i := 17) rfl)
theorem qw_378 : Cond.initialized "java/lang/System" ∈ wsL_law := bk_16 _ (List.mem_of_getElem? (i := 18) rfl)
theorem qw_379 : Cond.methodLink RX9 101 yX4_become ∈ wsL_law := bk_16 _ (List.mem_of_getElem? (i := 19) rfl)
theorem qw_380 : Cond.instanceMethod yX4_become ∈ wsL_law := bk_16 _ (List.mem_of_getElem? (i := 20) rfl)
theorem qw_381 : Cond.selects RX4 yX4_become yX4_become ∈ wsL_law := bk_16 _ (List.mem_of_getElem? (i := 21) rfl)
theorem qw_382 : Cond.code yX4_become cX4_become 2 none ∈ wsL_law := bk_16 _ (List.mem_of_getElem? (i := 22) rfl)
theorem qw_383 : Cond.methodLink RX4 34 arraycopyName ∈ wsL_law := bk_16 _ (List.mem_of_getElem? (i := 23) rfl)
theorem qw_388 : Cond.fieldLink RX10 116 "ThreeAwakeModel" "fault" "I" ∈ wsL_law := bk_17 _ (List.mem_of_getElem? (i := 4) rfl)
theorem qw_389 : Cond.fieldLink RX10 125 "ThreeAwakeModel" "pos" "I" ∈ wsL_law := bk_17 _ (List.mem_of_getElem? (i := 5) rfl)
theorem qw_390 : Cond.fieldLink RX10 140 "ThreeAwakeModel" "sort" "I" ∈ wsL_law := bk_17 _ (List.mem_of_getElem? (i := 6) rfl)
theorem qw_391 : Cond.fieldLink RX10 122 "ThreeAwakeModel" "wrongAt" "I" ∈ wsL_law := bk_17 _ (List.mem_of_getElem? (i := 7) rfl)
theorem qw_392 : Cond.methodLink RX10 161 yX10_next ∈ wsL_law := bk_17 _ (List.mem_of_getElem? (i := 8) rfl)
theorem qw_393 : Cond.instanceMethod yX10_next ∈ wsL_law := bk_17 _ (List.mem_of_getElem? (i := 9) rfl)
theorem qw_394 : Cond.selects RX10 yX10_next yX10_next ∈ wsL_law := bk_17 _ (List.mem_of_getElem? (i := 10) rfl)
theorem qw_395 : Cond.code yX10_next cX10_next 2 none ∈ wsL_law := bk_17 _ (List.mem_of_getElem? (i := 11) rfl)
theorem qw_396 : Cond.fieldLink RX10 119 "ThreeAwakeModel" "from" "I" ∈ wsL_law := bk_17 _ (List.mem_of_getElem? (i := 12) rfl)
theorem qw_397 : Cond.constantLong RX10 143 (97) ∈ wsL_law := bk_17 _ (List.mem_of_getElem? (i := 13) rfl)
theorem qw_398 : Cond.constantLong RX10 145 (122) ∈ wsL_law := bk_17 _ (List.mem_of_getElem? (i := 14) rfl)
theorem qw_399 : Cond.constantLong RX10 147 (48) ∈ wsL_law := bk_17 _ (List.mem_of_getElem? (i := 15) rfl)
theorem qw_400 : Cond.constantLong RX10 149 (57) ∈ wsL_law := bk_17 _ (List.mem_of_getElem? (i := 16) rfl)
theorem qw_401 : Cond.fieldLink RX10 151 "ThreeAwakeModel" "value" "I" ∈ wsL_law := bk_17 _ (List.mem_of_getElem? (i := 17) rfl)
theorem qw_402 : Cond.methodLink RX10 128 yX10_look ∈ wsL_law := bk_17 _ (List.mem_of_getElem? (i := 18) rfl)
theorem qw_403 : Cond.instanceMethod yX10_look ∈ wsL_law := bk_17 _ (List.mem_of_getElem? (i := 19) rfl)
theorem qw_404 : Cond.selects RX10 yX10_look yX10_look ∈ wsL_law := bk_17 _ (List.mem_of_getElem? (i := 20) rfl)
theorem qw_405 : Cond.code yX10_look cX10_look 2 (some .int) ∈ wsL_law := bk_17 _ (List.mem_of_getElem? (i := 21) rfl)
theorem qw_406 : Cond.methodLink RX10 154 yX10_needs ∈ wsL_law := bk_17 _ (List.mem_of_getElem? (i := 22) rfl)
theorem qw_407 : Cond.instanceMethod yX10_needs ∈ wsL_law := bk_17 _ (List.mem_of_getElem? (i := 23) rfl)
theorem qw_408 : Cond.selects RX10 yX10_needs yX10_needs ∈ wsL_law := bk_18 _ (List.mem_of_getElem? (i := 0) rfl)
theorem qw_409 : Cond.code yX10_needs cX10_needs 3 none ∈ wsL_law := bk_18 _ (List.mem_of_getElem? (i := 1) rfl)
theorem qw_410 : Cond.methodLink RX10 187 yX10_readLine ∈ wsL_law := bk_18 _ (List.mem_of_getElem? (i := 2) rfl)
theorem qw_411 : Cond.instanceMethod yX10_readLine ∈ wsL_law := bk_18 _ (List.mem_of_getElem? (i := 3) rfl)
theorem qw_412 : Cond.selects RX10 yX10_readLine yX10_readLine ∈ wsL_law := bk_18 _ (List.mem_of_getElem? (i := 4) rfl)
theorem qw_413 : Cond.code yX10_readLine cX10_readLine 2 none ∈ wsL_law := bk_18 _ (List.mem_of_getElem? (i := 5) rfl)
theorem qw_414 : Cond.methodLink RX10 181 yX10_lineNow ∈ wsL_law := bk_18 _ (List.mem_of_getElem? (i := 6) rfl)
theorem qw_415 : Cond.instanceMethod yX10_lineNow ∈ wsL_law := bk_18 _ (List.mem_of_getElem? (i := 7) rfl)
theorem qw_416 : Cond.selects RX10 yX10_lineNow yX10_lineNow ∈ wsL_law := bk_18 _ (List.mem_of_getElem? (i := 8) rfl)
theorem qw_417 : Cond.code yX10_lineNow cX10_lineNow 1 (some .int) ∈ wsL_law := bk_18 _ (List.mem_of_getElem? (i := 9) rfl)
theorem qw_418 : Cond.methodLink RX10 132 yX10_is ∈ wsL_law := bk_18 _ (List.mem_of_getElem? (i := 10) rfl)
theorem qw_419 : Cond.instanceMethod yX10_is ∈ wsL_law := bk_18 _ (List.mem_of_getElem? (i := 11) rfl)
theorem qw_420 : Cond.selects RX10 yX10_is yX10_is ∈ wsL_law := bk_18 _ (List.mem_of_getElem? (i := 12) rfl)
theorem qw_421 : Cond.code yX10_is cX10_is 5 (some .boolean) ∈ wsL_law := bk_18 _ (List.mem_of_getElem? (i := 13) rfl)
theorem qw_422 : Cond.methodLink RX10 136 yX10_ends ∈ wsL_law := bk_18 _ (List.mem_of_getElem? (i := 14) rfl)
theorem qw_423 : Cond.instanceMethod yX10_ends ∈ wsL_law := bk_18 _ (List.mem_of_getElem? (i := 15) rfl)
theorem qw_424 : Cond.selects RX10 yX10_ends yX10_ends ∈ wsL_law := bk_18 _ (List.mem_of_getElem? (i := 16) rfl)
theorem qw_425 : Cond.code yX10_ends cX10_ends 4 (some .boolean) ∈ wsL_law := bk_18 _ (List.mem_of_getElem? (i := 17) rfl)
theorem qw_426 : Cond.methodLink RX10 184 yX10_readLineOf ∈ wsL_law := bk_18 _ (List.mem_of_getElem? (i := 18) rfl)
theorem qw_427 : Cond.instanceMethod yX10_readLineOf ∈ wsL_law := bk_18 _ (List.mem_of_getElem? (i := 19) rfl)
theorem qw_428 : Cond.selects RX10 yX10_readLineOf yX10_readLineOf ∈ wsL_law := bk_18 _ (List.mem_of_getElem? (i := 20) rfl)
theorem qw_429 : Cond.code yX10_readLineOf cX10_readLineOf 4 none ∈ wsL_law := bk_18 _ (List.mem_of_getElem? (i := 21) rfl)
theorem qw_430 : Cond.methodLink RX10 171 yX10_readSister ∈ wsL_law := bk_18 _ (List.mem_of_getElem? (i := 22) rfl)
theorem qw_431 : Cond.instanceMethod yX10_readSister ∈ wsL_law := bk_18 _ (List.mem_of_getElem? (i := 23) rfl)
theorem qw_432 : Cond.selects RX10 yX10_readSister yX10_readSister ∈ wsL_law := bk_19 _ (List.mem_of_getElem? (i := 0) rfl)
theorem qw_433 : Cond.code yX10_readSister cX10_readSister 2 none ∈ wsL_law := bk_19 _ (List.mem_of_getElem? (i := 1) rfl)
theorem qw_434 : Cond.methodLink RX10 164 yX10_kindNow ∈ wsL_law := bk_19 _ (List.mem_of_getElem? (i := 2) rfl)
theorem qw_435 : Cond.instanceMethod yX10_kindNow ∈ wsL_law := bk_19 _ (List.mem_of_getElem? (i := 3) rfl)
theorem qw_436 : Cond.selects RX10 yX10_kindNow yX10_kindNow ∈ wsL_law := bk_19 _ (List.mem_of_getElem? (i := 4) rfl)
theorem qw_437 : Cond.code yX10_kindNow cX10_kindNow 1 (some .int) ∈ wsL_law := bk_19 _ (List.mem_of_getElem? (i := 5) rfl)
theorem qw_438 : Cond.methodLink RX10 168 yX10_readNumber ∈ wsL_law := bk_19 _ (List.mem_of_getElem? (i := 6) rfl)
theorem qw_439 : Cond.instanceMethod yX10_readNumber ∈ wsL_law := bk_19 _ (List.mem_of_getElem? (i := 7) rfl)
theorem qw_440 : Cond.selects RX10 yX10_readNumber yX10_readNumber ∈ wsL_law := bk_19 _ (List.mem_of_getElem? (i := 8) rfl)
theorem qw_441 : Cond.code yX10_readNumber cX10_readNumber 4 (some .int) ∈ wsL_law := bk_19 _ (List.mem_of_getElem? (i := 9) rfl)
theorem qw_442 : Cond.methodLink RX10 158 yX10_looked ∈ wsL_law := bk_19 _ (List.mem_of_getElem? (i := 10) rfl)
theorem qw_443 : Cond.instanceMethod yX10_looked ∈ wsL_law := bk_19 _ (List.mem_of_getElem? (i := 11) rfl)
theorem qw_444 : Cond.selects RX10 yX10_looked yX10_looked ∈ wsL_law := bk_19 _ (List.mem_of_getElem? (i := 12) rfl)
theorem qw_445 : Cond.code yX10_looked cX10_looked 3 (some .int) ∈ wsL_law := bk_19 _ (List.mem_of_getElem? (i := 13) rfl)
theorem qw_446 : Cond.methodLink RX10 174 yX10_readNew ∈ wsL_law := bk_19 _ (List.mem_of_getElem? (i := 14) rfl)
theorem qw_447 : Cond.instanceMethod yX10_readNew ∈ wsL_law := bk_19 _ (List.mem_of_getElem? (i := 15) rfl)
theorem qw_448 : Cond.selects RX10 yX10_readNew yX10_readNew ∈ wsL_law := bk_19 _ (List.mem_of_getElem? (i := 16) rfl)
theorem qw_449 : Cond.code yX10_readNew cX10_readNew 4 (some .int) ∈ wsL_law := bk_19 _ (List.mem_of_getElem? (i := 17) rfl)
theorem qw_450 : Cond.methodLink RX10 177 yX10_sawQuarter ∈ wsL_law := bk_19 _ (List.mem_of_getElem? (i := 18) rfl)
theorem qw_451 : Cond.instanceMethod yX10_sawQuarter ∈ wsL_law := bk_19 _ (List.mem_of_getElem? (i := 19) rfl)
theorem qw_452 : Cond.selects RX10 yX10_sawQuarter yX10_sawQuarter ∈ wsL_law := bk_19 _ (List.mem_of_getElem? (i := 20) rfl)
theorem qw_453 : Cond.code yX10_sawQuarter cX10_sawQuarter 2 none ∈ wsL_law := bk_19 _ (List.mem_of_getElem? (i := 21) rfl)
theorem qw_454 : Cond.methodLink RX10 190 yX10_areWatches ∈ wsL_law := bk_19 _ (List.mem_of_getElem? (i := 22) rfl)
theorem qw_455 : Cond.instanceMethod yX10_areWatches ∈ wsL_law := bk_19 _ (List.mem_of_getElem? (i := 23) rfl)
theorem qw_456 : Cond.selects RX10 yX10_areWatches yX10_areWatches ∈ wsL_law := bk_20 _ (List.mem_of_getElem? (i := 0) rfl)
theorem qw_457 : Cond.code yX10_areWatches cX10_areWatches 3 (some .boolean) ∈ wsL_law := bk_20 _ (List.mem_of_getElem? (i := 1) rfl)
theorem qw_462 : Cond.fieldLink RX9 110 "ThreeAwake$Reader" "fault" "I" ∈ wsL_law := bk_20 _ (List.mem_of_getElem? (i := 6) rfl)
theorem qw_471 : Cond.fieldLink RX9 113 "ThreeAwake$House" "sisters" "I" ∈ wsL_law := bk_20 _ (List.mem_of_getElem? (i := 15) rfl)
theorem qw_472 : Cond.fieldLink RX9 116 "ThreeAwake$House" "quarters" "I" ∈ wsL_law := bk_20 _ (List.mem_of_getElem? (i := 16) rfl)
theorem qw_481 : Cond.fieldLink RX9 126 "ThreeAwake$House" "kind" "[I" ∈ wsL_law := bk_21 _ (List.mem_of_getElem? (i := 1) rfl)
theorem qw_482 : Cond.fieldLink RX9 129 "ThreeAwake$Post" "facing" "[I" ∈ wsL_law := bk_21 _ (List.mem_of_getElem? (i := 2) rfl)
theorem qw_483 : Cond.methodLink RX9 119 yX1_hasSister ∈ wsL_law := bk_21 _ (List.mem_of_getElem? (i := 3) rfl)
theorem qw_484 : Cond.instanceMethod yX1_hasSister ∈ wsL_law := bk_21 _ (List.mem_of_getElem? (i := 4) rfl)
theorem qw_485 : Cond.selects RX1 yX1_hasSister yX1_hasSister ∈ wsL_law := bk_21 _ (List.mem_of_getElem? (i := 5) rfl)
theorem qw_486 : Cond.code yX1_hasSister cX1_hasSister 2 (some .boolean) ∈ wsL_law := bk_21 _ (List.mem_of_getElem? (i := 6) rfl)
theorem qw_487 : Cond.methodLink RX9 123 yX9_isEither ∈ wsL_law := bk_21 _ (List.mem_of_getElem? (i := 7) rfl)
theorem qw_488 : Cond.static yX9_isEither ∈ wsL_law := bk_21 _ (List.mem_of_getElem? (i := 8) rfl)
theorem qw_489 : Cond.code yX9_isEither cX9_isEither 1 (some .boolean) ∈ wsL_law := bk_21 _ (List.mem_of_getElem? (i := 9) rfl)
theorem qw_494 : Cond.methodLink RX10 196 yX10_isSister ∈ wsL_law := bk_21 _ (List.mem_of_getElem? (i := 14) rfl)
theorem qw_495 : Cond.instanceMethod yX10_isSister ∈ wsL_law := bk_21 _ (List.mem_of_getElem? (i := 15) rfl)
theorem qw_496 : Cond.selects RX10 yX10_isSister yX10_isSister ∈ wsL_law := bk_21 _ (List.mem_of_getElem? (i := 16) rfl)
theorem qw_497 : Cond.code yX10_isSister cX10_isSister 2 (some .boolean) ∈ wsL_law := bk_21 _ (List.mem_of_getElem? (i := 17) rfl)
theorem qw_502 : Cond.fieldLink RX9 139 "ThreeAwake$Sight" "seen" "[I" ∈ wsL_law := bk_21 _ (List.mem_of_getElem? (i := 22) rfl)
theorem qw_503 : Cond.fieldLink RX9 142 "ThreeAwake$Post" "tired" "[I" ∈ wsL_law := bk_21 _ (List.mem_of_getElem? (i := 23) rfl)
theorem qw_504 : Cond.methodLink RX9 132 yX1_hasEye ∈ wsL_law := bk_22 _ (List.mem_of_getElem? (i := 0) rfl)
theorem qw_505 : Cond.instanceMethod yX1_hasEye ∈ wsL_law := bk_22 _ (List.mem_of_getElem? (i := 1) rfl)
theorem qw_506 : Cond.selects RX1 yX1_hasEye yX1_hasEye ∈ wsL_law := bk_22 _ (List.mem_of_getElem? (i := 2) rfl)
theorem qw_507 : Cond.code yX1_hasEye cX1_hasEye 2 (some .boolean) ∈ wsL_law := bk_22 _ (List.mem_of_getElem? (i := 3) rfl)
theorem qw_508 : Cond.methodLink RX9 135 yX9_look ∈ wsL_law := bk_22 _ (List.mem_of_getElem? (i := 4) rfl)
theorem qw_509 : Cond.instanceMethod yX9_look ∈ wsL_law := bk_22 _ (List.mem_of_getElem? (i := 5) rfl)
theorem qw_510 : Cond.selects RX9 yX9_look yX9_look ∈ wsL_law := bk_22 _ (List.mem_of_getElem? (i := 6) rfl)
theorem qw_511 : Cond.code yX9_look cX9_look 1 (some (.object "ThreeAwake$Sight")) ∈ wsL_law := bk_22 _ (List.mem_of_getElem? (i := 7) rfl)
theorem qw_512 : Cond.methodLink RX9 226 yX1_everybody ∈ wsL_law := bk_22 _ (List.mem_of_getElem? (i := 8) rfl)
theorem qw_513 : Cond.instanceMethod yX1_everybody ∈ wsL_law := bk_22 _ (List.mem_of_getElem? (i := 9) rfl)
theorem qw_514 : Cond.selects RX1 yX1_everybody yX1_everybody ∈ wsL_law := bk_22 _ (List.mem_of_getElem? (i := 10) rfl)
theorem qw_515 : Cond.code yX1_everybody cX1_everybody 1 (some .int) ∈ wsL_law := bk_22 _ (List.mem_of_getElem? (i := 11) rfl)
theorem qw_516 : Cond.methodLink RX9 229 yX7_look ∈ wsL_law := bk_22 _ (List.mem_of_getElem? (i := 12) rfl)
theorem qw_517 : Cond.instanceMethod yX7_look ∈ wsL_law := bk_22 _ (List.mem_of_getElem? (i := 13) rfl)
theorem qw_518 : Cond.selects RX7 yX7_look yX7_look ∈ wsL_law := bk_22 _ (List.mem_of_getElem? (i := 14) rfl)
theorem qw_519 : Cond.code yX7_look cX7_look 7 none ∈ wsL_law := bk_22 _ (List.mem_of_getElem? (i := 15) rfl)
theorem qw_520 : Cond.fieldLink RX7 25 "ThreeAwake$House" "sides" "[I" ∈ wsL_law := bk_22 _ (List.mem_of_getElem? (i := 16) rfl)
theorem qw_521 : Cond.fieldLink RX7 34 "ThreeAwake$House" "kind" "[I" ∈ wsL_law := bk_22 _ (List.mem_of_getElem? (i := 17) rfl)
theorem qw_522 : Cond.methodLink RX7 30 yX7_turned ∈ wsL_law := bk_22 _ (List.mem_of_getElem? (i := 18) rfl)
theorem qw_523 : Cond.static yX7_turned ∈ wsL_law := bk_22 _ (List.mem_of_getElem? (i := 19) rfl)
theorem qw_524 : Cond.code yX7_turned cX7_turned 2 (some .int) ∈ wsL_law := bk_22 _ (List.mem_of_getElem? (i := 20) rfl)
theorem qw_529 : Cond.methodLink RX10 200 yX10_isEye ∈ wsL_law := bk_23 _ (List.mem_of_getElem? (i := 1) rfl)
theorem qw_530 : Cond.instanceMethod yX10_isEye ∈ wsL_law := bk_23 _ (List.mem_of_getElem? (i := 2) rfl)
theorem qw_531 : Cond.selects RX10 yX10_isEye yX10_isEye ∈ wsL_law := bk_23 _ (List.mem_of_getElem? (i := 3) rfl)
theorem qw_532 : Cond.code yX10_isEye cX10_isEye 2 (some .boolean) ∈ wsL_law := bk_23 _ (List.mem_of_getElem? (i := 4) rfl)
theorem qw_533 : Cond.methodLink RX10 203 yX10_seenBy ∈ wsL_law := bk_23 _ (List.mem_of_getElem? (i := 5) rfl)
theorem qw_534 : Cond.instanceMethod yX10_seenBy ∈ wsL_law := bk_23 _ (List.mem_of_getElem? (i := 6) rfl)
theorem qw_535 : Cond.selects RX10 yX10_seenBy yX10_seenBy ∈ wsL_law := bk_23 _ (List.mem_of_getElem? (i := 7) rfl)
theorem qw_536 : Cond.code yX10_seenBy cX10_seenBy 3 (some .int) ∈ wsL_law := bk_23 _ (List.mem_of_getElem? (i := 8) rfl)
theorem qw_541 : Cond.fieldLink RX9 151 "ThreeAwake$Post" "need" "[I" ∈ wsL_law := bk_23 _ (List.mem_of_getElem? (i := 13) rfl)
theorem qw_542 : Cond.fieldLink RX9 154 "ThreeAwake$Post" "storm" "[I" ∈ wsL_law := bk_23 _ (List.mem_of_getElem? (i := 14) rfl)
theorem qw_543 : Cond.methodLink RX9 145 yX9_isSide ∈ wsL_law := bk_23 _ (List.mem_of_getElem? (i := 15) rfl)
theorem qw_544 : Cond.static yX9_isSide ∈ wsL_law := bk_23 _ (List.mem_of_getElem? (i := 16) rfl)
theorem qw_545 : Cond.code yX9_isSide cX9_isSide 1 (some .boolean) ∈ wsL_law := bk_23 _ (List.mem_of_getElem? (i := 17) rfl)
theorem qw_546 : Cond.methodLink RX9 148 yX1_hasQuarter ∈ wsL_law := bk_23 _ (List.mem_of_getElem? (i := 18) rfl)
theorem qw_547 : Cond.instanceMethod yX1_hasQuarter ∈ wsL_law := bk_23 _ (List.mem_of_getElem? (i := 19) rfl)
theorem qw_548 : Cond.selects RX1 yX1_hasQuarter yX1_hasQuarter ∈ wsL_law := bk_23 _ (List.mem_of_getElem? (i := 20) rfl)
theorem qw_549 : Cond.code yX1_hasQuarter cX1_hasQuarter 2 (some .boolean) ∈ wsL_law := bk_23 _ (List.mem_of_getElem? (i := 21) rfl)
theorem qw_554 : Cond.methodLink RX10 206 yX10_isSide ∈ wsL_law := bk_24 _ (List.mem_of_getElem? (i := 2) rfl)
theorem qw_555 : Cond.static yX10_isSide ∈ wsL_law := bk_24 _ (List.mem_of_getElem? (i := 3) rfl)
theorem qw_556 : Cond.code yX10_isSide cX10_isSide 1 (some .boolean) ∈ wsL_law := bk_24 _ (List.mem_of_getElem? (i := 4) rfl)
theorem qw_557 : Cond.constantLong RX10 194 (3) ∈ wsL_law := bk_24 _ (List.mem_of_getElem? (i := 5) rfl)
theorem qw_558 : Cond.methodLink RX10 209 yX10_isQuarter ∈ wsL_law := bk_24 _ (List.mem_of_getElem? (i := 6) rfl)
theorem qw_559 : Cond.instanceMethod yX10_isQuarter ∈ wsL_law := bk_24 _ (List.mem_of_getElem? (i := 7) rfl)
theorem qw_560 : Cond.selects RX10 yX10_isQuarter yX10_isQuarter ∈ wsL_law := bk_24 _ (List.mem_of_getElem? (i := 8) rfl)
theorem qw_561 : Cond.code yX10_isQuarter cX10_isQuarter 2 (some .boolean) ∈ wsL_law := bk_24 _ (List.mem_of_getElem? (i := 9) rfl)
theorem qw_562 : Cond.methodLink RX10 212 yX10_neededAt ∈ wsL_law := bk_24 _ (List.mem_of_getElem? (i := 10) rfl)
theorem qw_563 : Cond.instanceMethod yX10_neededAt ∈ wsL_law := bk_24 _ (List.mem_of_getElem? (i := 11) rfl)
theorem qw_564 : Cond.selects RX10 yX10_neededAt yX10_neededAt ∈ wsL_law := bk_24 _ (List.mem_of_getElem? (i := 12) rfl)
theorem qw_565 : Cond.code yX10_neededAt cX10_neededAt 3 (some .int) ∈ wsL_law := bk_24 _ (List.mem_of_getElem? (i := 13) rfl)
theorem qw_570 : Cond.fieldLink RX9 157 "ThreeAwake$Post" "watch" "[I" ∈ wsL_law := bk_24 _ (List.mem_of_getElem? (i := 18) rfl)
theorem qw_579 : Cond.methodLink RX9 160 yX9_canTell ∈ wsL_law := bk_25 _ (List.mem_of_getElem? (i := 3) rfl)
theorem qw_580 : Cond.instanceMethod yX9_canTell ∈ wsL_law := bk_25 _ (List.mem_of_getElem? (i := 4) rfl)
theorem qw_581 : Cond.selects RX9 yX9_canTell yX9_canTell ∈ wsL_law := bk_25 _ (List.mem_of_getElem? (i := 5) rfl)
theorem qw_582 : Cond.code yX9_canTell cX9_canTell 3 (some .boolean) ∈ wsL_law := bk_25 _ (List.mem_of_getElem? (i := 6) rfl)
theorem qw_583 : Cond.methodLink RX9 167 yX1_hasWatch ∈ wsL_law := bk_25 _ (List.mem_of_getElem? (i := 7) rfl)
theorem qw_585 : Cond.instanceMethod yX10_tell ∈ wsL_law := bk_25 _ (List.mem_of_getElem? (i := 9) rfl)
theorem qw_586 : Cond.selects RX10 yX10_tell yX10_tell ∈ wsL_law := bk_25 _ (List.mem_of_getElem? (i := 10) rfl)
theorem qw_587 : Cond.code yX10_tell cX10_tell 4 (some .int) ∈ wsL_law := bk_25 _ (List.mem_of_getElem? (i := 11) rfl)
theorem qw_588 : Cond.methodLink RX10 215 yX10_isWatch ∈ wsL_law := bk_25 _ (List.mem_of_getElem? (i := 12) rfl)
theorem qw_589 : Cond.instanceMethod yX10_isWatch ∈ wsL_law := bk_25 _ (List.mem_of_getElem? (i := 13) rfl)
theorem qw_590 : Cond.selects RX10 yX10_isWatch yX10_isWatch ∈ wsL_law := bk_25 _ (List.mem_of_getElem? (i := 14) rfl)
theorem qw_591 : Cond.code yX10_isWatch cX10_isWatch 2 (some .boolean) ∈ wsL_law := bk_25 _ (List.mem_of_getElem? (i := 15) rfl)
theorem qw_600 : Cond.constantLong RX10 218 (6) ∈ wsL_law := bk_26 _ (List.mem_of_getElem? (i := 0) rfl)
theorem qw_621 : Cond.methodLink RX9 164 yX1_isGlassEye ∈ wsL_law := bk_26 _ (List.mem_of_getElem? (i := 21) rfl)
theorem qw_626 : Cond.constantLong RX10 220 (9) ∈ wsL_law := bk_27 _ (List.mem_of_getElem? (i := 2) rfl)
theorem qw_627 : Cond.methodLink RX10 222 yX10_isGlass ∈ wsL_law := bk_27 _ (List.mem_of_getElem? (i := 3) rfl)
theorem qw_628 : Cond.instanceMethod yX10_isGlass ∈ wsL_law := bk_27 _ (List.mem_of_getElem? (i := 4) rfl)
theorem qw_629 : Cond.selects RX10 yX10_isGlass yX10_isGlass ∈ wsL_law := bk_27 _ (List.mem_of_getElem? (i := 5) rfl)
theorem qw_630 : Cond.code yX10_isGlass cX10_isGlass 2 (some .boolean) ∈ wsL_law := bk_27 _ (List.mem_of_getElem? (i := 6) rfl)
theorem qw_635 : Cond.methodLink RX9 170 yX7_openBy ∈ wsL_law := bk_27 _ (List.mem_of_getElem? (i := 11) rfl)
theorem qw_636 : Cond.instanceMethod yX7_openBy ∈ wsL_law := bk_27 _ (List.mem_of_getElem? (i := 12) rfl)
theorem qw_637 : Cond.selects RX7 yX7_openBy yX7_openBy ∈ wsL_law := bk_27 _ (List.mem_of_getElem? (i := 13) rfl)
theorem qw_638 : Cond.code yX7_openBy cX7_openBy 2 (some .int) ∈ wsL_law := bk_27 _ (List.mem_of_getElem? (i := 14) rfl)
theorem qw_639 : Cond.methodLink RX9 174 yX7_countOf ∈ wsL_law := bk_27 _ (List.mem_of_getElem? (i := 15) rfl)
theorem qw_640 : Cond.instanceMethod yX7_countOf ∈ wsL_law := bk_27 _ (List.mem_of_getElem? (i := 16) rfl)
theorem qw_641 : Cond.selects RX7 yX7_countOf yX7_countOf ∈ wsL_law := bk_27 _ (List.mem_of_getElem? (i := 17) rfl)
theorem qw_642 : Cond.code yX7_countOf cX7_countOf 5 (some .int) ∈ wsL_law := bk_27 _ (List.mem_of_getElem? (i := 18) rfl)
theorem qw_647 : Cond.methodLink RX10 238 yX10_shutBy ∈ wsL_law := bk_27 _ (List.mem_of_getElem? (i := 23) rfl)
theorem qw_648 : Cond.instanceMethod yX10_shutBy ∈ wsL_law := bk_28 _ (List.mem_of_getElem? (i := 0) rfl)
theorem qw_649 : Cond.selects RX10 yX10_shutBy yX10_shutBy ∈ wsL_law := bk_28 _ (List.mem_of_getElem? (i := 1) rfl)
theorem qw_650 : Cond.code yX10_shutBy cX10_shutBy 5 (some .int) ∈ wsL_law := bk_28 _ (List.mem_of_getElem? (i := 2) rfl)
theorem qw_651 : Cond.methodLink RX10 235 yX10_countOf ∈ wsL_law := bk_28 _ (List.mem_of_getElem? (i := 3) rfl)
theorem qw_652 : Cond.instanceMethod yX10_countOf ∈ wsL_law := bk_28 _ (List.mem_of_getElem? (i := 4) rfl)
theorem qw_653 : Cond.selects RX10 yX10_countOf yX10_countOf ∈ wsL_law := bk_28 _ (List.mem_of_getElem? (i := 5) rfl)
theorem qw_654 : Cond.code yX10_countOf cX10_countOf 7 (some .int) ∈ wsL_law := bk_28 _ (List.mem_of_getElem? (i := 6) rfl)
theorem qw_655 : Cond.methodLink RX10 228 yX10_isHere ∈ wsL_law := bk_28 _ (List.mem_of_getElem? (i := 7) rfl)
theorem qw_656 : Cond.instanceMethod yX10_isHere ∈ wsL_law := bk_28 _ (List.mem_of_getElem? (i := 8) rfl)
theorem qw_657 : Cond.selects RX10 yX10_isHere yX10_isHere ∈ wsL_law := bk_28 _ (List.mem_of_getElem? (i := 9) rfl)
theorem qw_658 : Cond.code yX10_isHere cX10_isHere 2 (some .boolean) ∈ wsL_law := bk_28 _ (List.mem_of_getElem? (i := 10) rfl)
theorem qw_659 : Cond.fieldLink RX10 225 "ThreeAwakeModel" "absent" "I" ∈ wsL_law := bk_28 _ (List.mem_of_getElem? (i := 11) rfl)
theorem qw_660 : Cond.methodLink RX10 231 yX10_flag ∈ wsL_law := bk_28 _ (List.mem_of_getElem? (i := 12) rfl)
theorem qw_661 : Cond.static yX10_flag ∈ wsL_law := bk_28 _ (List.mem_of_getElem? (i := 13) rfl)
theorem qw_662 : Cond.code yX10_flag cX10_flag 1 (some .int) ∈ wsL_law := bk_28 _ (List.mem_of_getElem? (i := 14) rfl)
theorem qw_667 : Cond.methodLink RX9 178 yX9_isLawful ∈ wsL_law := bk_28 _ (List.mem_of_getElem? (i := 19) rfl)
theorem qw_668 : Cond.instanceMethod yX9_isLawful ∈ wsL_law := bk_28 _ (List.mem_of_getElem? (i := 20) rfl)
theorem qw_669 : Cond.selects RX9 yX9_isLawful yX9_isLawful ∈ wsL_law := bk_28 _ (List.mem_of_getElem? (i := 21) rfl)
theorem qw_670 : Cond.code yX9_isLawful cX9_isLawful 3 (some .boolean) ∈ wsL_law := bk_28 _ (List.mem_of_getElem? (i := 22) rfl)
theorem qw_671 : Cond.methodLink RX9 302 yX7_lacking ∈ wsL_law := bk_28 _ (List.mem_of_getElem? (i := 23) rfl)
theorem qw_672 : Cond.instanceMethod yX7_lacking ∈ wsL_law := bk_29 _ (List.mem_of_getElem? (i := 0) rfl)
theorem qw_673 : Cond.selects RX7 yX7_lacking yX7_lacking ∈ wsL_law := bk_29 _ (List.mem_of_getElem? (i := 1) rfl)
theorem qw_674 : Cond.code yX7_lacking cX7_lacking 7 (some .int) ∈ wsL_law := bk_29 _ (List.mem_of_getElem? (i := 2) rfl)
theorem qw_675 : Cond.methodLink RX7 40 yX7_countOf ∈ wsL_law := bk_29 _ (List.mem_of_getElem? (i := 3) rfl)
theorem qw_680 : Cond.methodLink RX10 244 yX10_isLawful ∈ wsL_law := bk_29 _ (List.mem_of_getElem? (i := 8) rfl)
theorem qw_681 : Cond.instanceMethod yX10_isLawful ∈ wsL_law := bk_29 _ (List.mem_of_getElem? (i := 9) rfl)
theorem qw_682 : Cond.selects RX10 yX10_isLawful yX10_isLawful ∈ wsL_law := bk_29 _ (List.mem_of_getElem? (i := 10) rfl)
theorem qw_683 : Cond.code yX10_isLawful cX10_isLawful 3 (some .boolean) ∈ wsL_law := bk_29 _ (List.mem_of_getElem? (i := 11) rfl)
theorem qw_684 : Cond.methodLink RX10 241 yX10_missedBy ∈ wsL_law := bk_29 _ (List.mem_of_getElem? (i := 12) rfl)
theorem qw_685 : Cond.instanceMethod yX10_missedBy ∈ wsL_law := bk_29 _ (List.mem_of_getElem? (i := 13) rfl)
theorem qw_686 : Cond.selects RX10 yX10_missedBy yX10_missedBy ∈ wsL_law := bk_29 _ (List.mem_of_getElem? (i := 14) rfl)
theorem qw_687 : Cond.code yX10_missedBy cX10_missedBy 5 (some .int) ∈ wsL_law := bk_29 _ (List.mem_of_getElem? (i := 15) rfl)
theorem qw_692 : Cond.fieldLink RX9 185 "ThreeAwake" "SHUT" "[I" ∈ wsL_law := bk_29 _ (List.mem_of_getElem? (i := 20) rfl)
theorem qw_693 : Cond.fieldLink RX9 188 "ThreeAwake$Sight" "glass" "I" ∈ wsL_law := bk_29 _ (List.mem_of_getElem? (i := 21) rfl)
theorem qw_694 : Cond.methodLink RX9 181 yX1_watches ∈ wsL_law := bk_29 _ (List.mem_of_getElem? (i := 22) rfl)
theorem qw_695 : Cond.methodLink RX9 191 yJ6_bitCount_0f7a4 ∈ wsL_law := bk_29 _ (List.mem_of_getElem? (i := 23) rfl)
theorem qw_696 : Cond.static yJ6_bitCount_0f7a4 ∈ wsL_law := bk_30 _ (List.mem_of_getElem? (i := 0) rfl)
theorem qw_697 : Cond.initialized RJ6 ∈ wsL_law := bk_30 _ (List.mem_of_getElem? (i := 1) rfl)
theorem qw_698 : Cond.code yJ6_bitCount_0f7a4 cJ6_bitCount_0f7a4 1 (some .int) ∈ wsL_law := bk_30 _ (List.mem_of_getElem? (i := 2) rfl)
theorem qw_699 : Cond.constant RJ6 265 (1431655765) ∈ wsL_law := bk_30 _ (List.mem_of_getElem? (i := 3) rfl)
theorem qw_700 : Cond.constant RJ6 266 (858993459) ∈ wsL_law := bk_30 _ (List.mem_of_getElem? (i := 4) rfl)
theorem qw_701 : Cond.constant RJ6 267 (252645135) ∈ wsL_law := bk_30 _ (List.mem_of_getElem? (i := 5) rfl)
theorem qw_706 : Cond.methodLink RX10 248 yX10_isPart ∈ wsL_law := bk_30 _ (List.mem_of_getElem? (i := 10) rfl)
theorem qw_707 : Cond.static yX10_isPart ∈ wsL_law := bk_30 _ (List.mem_of_getElem? (i := 11) rfl)
theorem qw_708 : Cond.code yX10_isPart cX10_isPart 1 (some .boolean) ∈ wsL_law := bk_30 _ (List.mem_of_getElem? (i := 12) rfl)
theorem qw_709 : Cond.methodLink RX10 251 yX10_glassEyes ∈ wsL_law := bk_30 _ (List.mem_of_getElem? (i := 13) rfl)
theorem qw_710 : Cond.instanceMethod yX10_glassEyes ∈ wsL_law := bk_30 _ (List.mem_of_getElem? (i := 14) rfl)
theorem qw_711 : Cond.selects RX10 yX10_glassEyes yX10_glassEyes ∈ wsL_law := bk_30 _ (List.mem_of_getElem? (i := 15) rfl)
theorem qw_712 : Cond.code yX10_glassEyes cX10_glassEyes 3 (some .int) ∈ wsL_law := bk_30 _ (List.mem_of_getElem? (i := 16) rfl)
theorem qw_713 : Cond.methodLink RX10 254 yX10_bitsOf ∈ wsL_law := bk_30 _ (List.mem_of_getElem? (i := 17) rfl)
theorem qw_714 : Cond.static yX10_bitsOf ∈ wsL_law := bk_30 _ (List.mem_of_getElem? (i := 18) rfl)
theorem qw_715 : Cond.code yX10_bitsOf cX10_bitsOf 3 (some .int) ∈ wsL_law := bk_30 _ (List.mem_of_getElem? (i := 19) rfl)
theorem qw_720 : Cond.fieldLink RX9 203 "ThreeAwake$Night" "tired" "[I" ∈ wsL_law := bk_31 _ (List.mem_of_getElem? (i := 0) rfl)
theorem qw_721 : Cond.methodLink RX9 196 yX2_reach ∈ wsL_law := bk_31 _ (List.mem_of_getElem? (i := 1) rfl)
theorem qw_722 : Cond.instanceMethod yX2_reach ∈ wsL_law := bk_31 _ (List.mem_of_getElem? (i := 2) rfl)
theorem qw_723 : Cond.selects RX2 yX2_reach yX2_reach ∈ wsL_law := bk_31 _ (List.mem_of_getElem? (i := 3) rfl)
theorem qw_724 : Cond.code yX2_reach cX2_reach 6 none ∈ wsL_law := bk_31 _ (List.mem_of_getElem? (i := 4) rfl)
theorem qw_725 : Cond.fieldLink RX2 19 "ThreeAwake$Post" "tired" "[I" ∈ wsL_law := bk_31 _ (List.mem_of_getElem? (i := 5) rfl)
theorem qw_726 : Cond.methodLink RX2 22 arraycopyName ∈ wsL_law := bk_31 _ (List.mem_of_getElem? (i := 6) rfl)
theorem qw_727 : Cond.fieldLink RX2 28 "ThreeAwake$Post" "watch" "[I" ∈ wsL_law := bk_31 _ (List.mem_of_getElem? (i := 7) rfl)
theorem qw_728 : Cond.methodLink RX2 31 yX2_beginQuarter ∈ wsL_law := bk_31 _ (List.mem_of_getElem? (i := 8) rfl)
theorem qw_729 : Cond.instanceMethod yX2_beginQuarter ∈ wsL_law := bk_31 _ (List.mem_of_getElem? (i := 9) rfl)
theorem qw_730 : Cond.selects RX2 yX2_beginQuarter yX2_beginQuarter ∈ wsL_law := bk_31 _ (List.mem_of_getElem? (i := 10) rfl)
theorem qw_731 : Cond.code yX2_beginQuarter cX2_beginQuarter 4 none ∈ wsL_law := bk_31 _ (List.mem_of_getElem? (i := 11) rfl)
theorem qw_732 : Cond.methodLink RX2 39 yX7_openBy ∈ wsL_law := bk_31 _ (List.mem_of_getElem? (i := 12) rfl)
theorem qw_733 : Cond.methodLink RX2 35 yX2_pass ∈ wsL_law := bk_31 _ (List.mem_of_getElem? (i := 13) rfl)
theorem qw_734 : Cond.instanceMethod yX2_pass ∈ wsL_law := bk_31 _ (List.mem_of_getElem? (i := 14) rfl)
theorem qw_735 : Cond.selects RX2 yX2_pass yX2_pass ∈ wsL_law := bk_31 _ (List.mem_of_getElem? (i := 15) rfl)
theorem qw_736 : Cond.code yX2_pass cX2_pass 4 none ∈ wsL_law := bk_31 _ (List.mem_of_getElem? (i := 16) rfl)
theorem qw_737 : Cond.fieldLink RX2 45 "ThreeAwake$House" "kind" "[I" ∈ wsL_law := bk_31 _ (List.mem_of_getElem? (i := 17) rfl)
theorem qw_738 : Cond.methodLink RX2 50 Lib.Math.min.name ∈ wsL_law := bk_31 _ (List.mem_of_getElem? (i := 18) rfl)
theorem qw_739 : Cond.static Lib.Math.min.name ∈ wsL_law := bk_31 _ (List.mem_of_getElem? (i := 19) rfl)
theorem qw_740 : Cond.initialized "java/lang/Math" ∈ wsL_law := bk_31 _ (List.mem_of_getElem? (i := 20) rfl)
theorem qw_741 : Cond.code Lib.Math.min.name Lib.Math.min.code 2 (some .int) ∈ wsL_law := bk_31 _ (List.mem_of_getElem? (i := 21) rfl)
theorem qw_742 : Cond.methodLink RX2 56 Lib.Math.max.name ∈ wsL_law := bk_31 _ (List.mem_of_getElem? (i := 22) rfl)
theorem qw_743 : Cond.static Lib.Math.max.name ∈ wsL_law := bk_31 _ (List.mem_of_getElem? (i := 23) rfl)
theorem qw_744 : Cond.code Lib.Math.max.name Lib.Math.max.code 2 (some .int) ∈ wsL_law := bk_32 _ (List.mem_of_getElem? (i := 0) rfl)
theorem qw_745 : Cond.methodLink RX9 200 yX2_pass ∈ wsL_law := bk_32 _ (List.mem_of_getElem? (i := 1) rfl)
theorem qw_750 : Cond.methodLink RX10 264 yX10_goes ∈ wsL_law := bk_32 _ (List.mem_of_getElem? (i := 6) rfl)
theorem qw_751 : Cond.instanceMethod yX10_goes ∈ wsL_law := bk_32 _ (List.mem_of_getElem? (i := 7) rfl)
theorem qw_752 : Cond.selects RX10 yX10_goes yX10_goes ∈ wsL_law := bk_32 _ (List.mem_of_getElem? (i := 8) rfl)
theorem qw_753 : Cond.code yX10_goes cX10_goes 5 none ∈ wsL_law := bk_32 _ (List.mem_of_getElem? (i := 9) rfl)
theorem qw_754 : Cond.methodLink RX10 257 yX10_shutNow ∈ wsL_law := bk_32 _ (List.mem_of_getElem? (i := 10) rfl)
theorem qw_755 : Cond.instanceMethod yX10_shutNow ∈ wsL_law := bk_32 _ (List.mem_of_getElem? (i := 11) rfl)
theorem qw_756 : Cond.selects RX10 yX10_shutNow yX10_shutNow ∈ wsL_law := bk_32 _ (List.mem_of_getElem? (i := 12) rfl)
theorem qw_757 : Cond.code yX10_shutNow cX10_shutNow 4 (some .int) ∈ wsL_law := bk_32 _ (List.mem_of_getElem? (i := 13) rfl)
theorem qw_758 : Cond.methodLink RX10 260 yX10_tiredThen ∈ wsL_law := bk_32 _ (List.mem_of_getElem? (i := 14) rfl)
theorem qw_759 : Cond.instanceMethod yX10_tiredThen ∈ wsL_law := bk_32 _ (List.mem_of_getElem? (i := 15) rfl)
theorem qw_760 : Cond.selects RX10 yX10_tiredThen yX10_tiredThen ∈ wsL_law := bk_32 _ (List.mem_of_getElem? (i := 16) rfl)
theorem qw_761 : Cond.code yX10_tiredThen cX10_tiredThen 4 (some .int) ∈ wsL_law := bk_32 _ (List.mem_of_getElem? (i := 17) rfl)
theorem qw_766 : Cond.fieldLink RX9 204 "ThreeAwake$Night" "open" "I" ∈ wsL_law := bk_32 _ (List.mem_of_getElem? (i := 22) rfl)
theorem qw_771 : Cond.methodLink RX10 267 yX10_openIn ∈ wsL_law := bk_33 _ (List.mem_of_getElem? (i := 3) rfl)
theorem qw_772 : Cond.instanceMethod yX10_openIn ∈ wsL_law := bk_33 _ (List.mem_of_getElem? (i := 4) rfl)
theorem qw_773 : Cond.selects RX10 yX10_openIn yX10_openIn ∈ wsL_law := bk_33 _ (List.mem_of_getElem? (i := 5) rfl)
theorem qw_774 : Cond.code yX10_openIn cX10_openIn 2 (some .int) ∈ wsL_law := bk_33 _ (List.mem_of_getElem? (i := 6) rfl)
theorem qw_779 : Cond.methodLink RX9 207 yX9_missedIn ∈ wsL_law := bk_33 _ (List.mem_of_getElem? (i := 11) rfl)
theorem qw_780 : Cond.instanceMethod yX9_missedIn ∈ wsL_law := bk_33 _ (List.mem_of_getElem? (i := 12) rfl)
theorem qw_781 : Cond.selects RX9 yX9_missedIn yX9_missedIn ∈ wsL_law := bk_33 _ (List.mem_of_getElem? (i := 13) rfl)
theorem qw_782 : Cond.code yX9_missedIn cX9_missedIn 2 (some .int) ∈ wsL_law := bk_33 _ (List.mem_of_getElem? (i := 14) rfl)
theorem qw_787 : Cond.methodLink RX10 270 yX10_missedIn ∈ wsL_law := bk_33 _ (List.mem_of_getElem? (i := 19) rfl)
theorem qw_788 : Cond.instanceMethod yX10_missedIn ∈ wsL_law := bk_33 _ (List.mem_of_getElem? (i := 20) rfl)
theorem qw_789 : Cond.selects RX10 yX10_missedIn yX10_missedIn ∈ wsL_law := bk_33 _ (List.mem_of_getElem? (i := 21) rfl)
theorem qw_790 : Cond.code yX10_missedIn cX10_missedIn 2 (some .int) ∈ wsL_law := bk_33 _ (List.mem_of_getElem? (i := 22) rfl)
theorem qw_811 : Cond.fieldLink RX9 214 "ThreeAwake$Circle" "watch" "[I" ∈ wsL_law := bk_34 _ (List.mem_of_getElem? (i := 19) rfl)
theorem qw_812 : Cond.methodLink RX9 210 yX0_shortest ∈ wsL_law := bk_34 _ (List.mem_of_getElem? (i := 20) rfl)
theorem qw_813 : Cond.instanceMethod yX0_shortest ∈ wsL_law := bk_34 _ (List.mem_of_getElem? (i := 21) rfl)
theorem qw_814 : Cond.selects RX0 yX0_shortest yX0_shortest ∈ wsL_law := bk_34 _ (List.mem_of_getElem? (i := 22) rfl)
theorem qw_815 : Cond.code yX0_shortest cX0_shortest 5 (some .int) ∈ wsL_law := bk_34 _ (List.mem_of_getElem? (i := 23) rfl)
theorem qw_816 : Cond.fieldLink RX0 22 "ThreeAwake$Sight" "eyes" "I" ∈ wsL_law := bk_35 _ (List.mem_of_getElem? (i := 0) rfl)
theorem qw_817 : Cond.fieldLink RX0 35 "ThreeAwake$Sight" "glass" "I" ∈ wsL_law := bk_35 _ (List.mem_of_getElem? (i := 1) rfl)
theorem qw_818 : Cond.methodLink RX0 27 yX7_openBy ∈ wsL_law := bk_35 _ (List.mem_of_getElem? (i := 2) rfl)
theorem qw_819 : Cond.methodLink RX0 31 yX7_lacking ∈ wsL_law := bk_35 _ (List.mem_of_getElem? (i := 3) rfl)
theorem qw_820 : Cond.methodLink RX0 38 yX0_fill ∈ wsL_law := bk_35 _ (List.mem_of_getElem? (i := 4) rfl)
theorem qw_821 : Cond.static yX0_fill ∈ wsL_law := bk_35 _ (List.mem_of_getElem? (i := 5) rfl)
theorem qw_822 : Cond.code yX0_fill cX0_fill 5 (some .boolean) ∈ wsL_law := bk_35 _ (List.mem_of_getElem? (i := 6) rfl)
theorem qw_827 : Cond.constantLong RX10 288 (10) ∈ wsL_law := bk_35 _ (List.mem_of_getElem? (i := 11) rfl)
theorem qw_828 : Cond.constantLong RX10 290 (12) ∈ wsL_law := bk_35 _ (List.mem_of_getElem? (i := 12) rfl)
theorem qw_829 : Cond.methodLink RX10 292 yX10_findEyes ∈ wsL_law := bk_35 _ (List.mem_of_getElem? (i := 13) rfl)
theorem qw_830 : Cond.instanceMethod yX10_findEyes ∈ wsL_law := bk_35 _ (List.mem_of_getElem? (i := 14) rfl)
theorem qw_831 : Cond.selects RX10 yX10_findEyes yX10_findEyes ∈ wsL_law := bk_35 _ (List.mem_of_getElem? (i := 15) rfl)
theorem qw_832 : Cond.code yX10_findEyes cX10_findEyes 2 none ∈ wsL_law := bk_35 _ (List.mem_of_getElem? (i := 16) rfl)
theorem qw_833 : Cond.fieldLink RX10 273 "ThreeAwakeModel" "eyes" "I" ∈ wsL_law := bk_35 _ (List.mem_of_getElem? (i := 17) rfl)
theorem qw_834 : Cond.methodLink RX10 295 yX10_isCalm ∈ wsL_law := bk_35 _ (List.mem_of_getElem? (i := 18) rfl)
theorem qw_835 : Cond.instanceMethod yX10_isCalm ∈ wsL_law := bk_35 _ (List.mem_of_getElem? (i := 19) rfl)
theorem qw_836 : Cond.selects RX10 yX10_isCalm yX10_isCalm ∈ wsL_law := bk_35 _ (List.mem_of_getElem? (i := 20) rfl)
theorem qw_837 : Cond.code yX10_isCalm cX10_isCalm 4 (some .boolean) ∈ wsL_law := bk_35 _ (List.mem_of_getElem? (i := 21) rfl)
theorem qw_838 : Cond.methodLink RX10 298 yX10_canRest ∈ wsL_law := bk_35 _ (List.mem_of_getElem? (i := 22) rfl)
theorem qw_839 : Cond.instanceMethod yX10_canRest ∈ wsL_law := bk_35 _ (List.mem_of_getElem? (i := 23) rfl)
theorem qw_840 : Cond.selects RX10 yX10_canRest yX10_canRest ∈ wsL_law := bk_36 _ (List.mem_of_getElem? (i := 0) rfl)
theorem qw_841 : Cond.code yX10_canRest cX10_canRest 7 (some .boolean) ∈ wsL_law := bk_36 _ (List.mem_of_getElem? (i := 1) rfl)
theorem qw_842 : Cond.fieldLink RX10 276 "ThreeAwakeModel" "base" "I" ∈ wsL_law := bk_36 _ (List.mem_of_getElem? (i := 2) rfl)
theorem qw_843 : Cond.fieldLink RX10 279 "ThreeAwakeModel" "states" "I" ∈ wsL_law := bk_36 _ (List.mem_of_getElem? (i := 3) rfl)
theorem qw_844 : Cond.methodLink RX10 282 yX10_lacksThen ∈ wsL_law := bk_36 _ (List.mem_of_getElem? (i := 4) rfl)
theorem qw_845 : Cond.instanceMethod yX10_lacksThen ∈ wsL_law := bk_36 _ (List.mem_of_getElem? (i := 5) rfl)
theorem qw_846 : Cond.selects RX10 yX10_lacksThen yX10_lacksThen ∈ wsL_law := bk_36 _ (List.mem_of_getElem? (i := 6) rfl)
theorem qw_847 : Cond.code yX10_lacksThen cX10_lacksThen 8 (some .int) ∈ wsL_law := bk_36 _ (List.mem_of_getElem? (i := 7) rfl)
theorem qw_848 : Cond.methodLink RX10 285 yX10_allLack ∈ wsL_law := bk_36 _ (List.mem_of_getElem? (i := 8) rfl)
theorem qw_849 : Cond.instanceMethod yX10_allLack ∈ wsL_law := bk_36 _ (List.mem_of_getElem? (i := 9) rfl)
theorem qw_850 : Cond.selects RX10 yX10_allLack yX10_allLack ∈ wsL_law := bk_36 _ (List.mem_of_getElem? (i := 10) rfl)
theorem qw_851 : Cond.code yX10_allLack cX10_allLack 4 (some .int) ∈ wsL_law := bk_36 _ (List.mem_of_getElem? (i := 11) rfl)
theorem qw_852 : Cond.methodLink RX10 301 yX10_rowAt ∈ wsL_law := bk_36 _ (List.mem_of_getElem? (i := 12) rfl)
theorem qw_853 : Cond.instanceMethod yX10_rowAt ∈ wsL_law := bk_36 _ (List.mem_of_getElem? (i := 13) rfl)
theorem qw_854 : Cond.selects RX10 yX10_rowAt yX10_rowAt ∈ wsL_law := bk_36 _ (List.mem_of_getElem? (i := 14) rfl)
theorem qw_855 : Cond.code yX10_rowAt cX10_rowAt 6 (some .int) ∈ wsL_law := bk_36 _ (List.mem_of_getElem? (i := 15) rfl)
theorem qw_860 : Cond.fieldLink RX9 225 "ThreeAwake$Plan" "watch" "[I" ∈ wsL_law := bk_36 _ (List.mem_of_getElem? (i := 20) rfl)
theorem qw_861 : Cond.methodLink RX9 215 yX3_prepare ∈ wsL_law := bk_36 _ (List.mem_of_getElem? (i := 21) rfl)
theorem qw_862 : Cond.instanceMethod yX3_prepare ∈ wsL_law := bk_36 _ (List.mem_of_getElem? (i := 22) rfl)
theorem qw_863 : Cond.selects RX3 yX3_prepare yX3_prepare ∈ wsL_law := bk_36 _ (List.mem_of_getElem? (i := 23) rfl)
theorem qw_864 : Cond.code yX3_prepare cX3_prepare 6 none ∈ wsL_law := bk_37 _ (List.mem_of_getElem? (i := 0) rfl)
theorem qw_865 : Cond.fieldLink RX3 41 "ThreeAwake$House" "quarters" "I" ∈ wsL_law := bk_37 _ (List.mem_of_getElem? (i := 1) rfl)
theorem qw_866 : Cond.fieldLink RX3 44 "ThreeAwake$Sight" "eyes" "I" ∈ wsL_law := bk_37 _ (List.mem_of_getElem? (i := 2) rfl)
theorem qw_867 : Cond.fieldLink RX3 49 "ThreeAwake$Sight" "glass" "I" ∈ wsL_law := bk_37 _ (List.mem_of_getElem? (i := 3) rfl)
theorem qw_868 : Cond.methodLink RX3 52 yX3_judge ∈ wsL_law := bk_37 _ (List.mem_of_getElem? (i := 4) rfl)
theorem qw_869 : Cond.instanceMethod yX3_judge ∈ wsL_law := bk_37 _ (List.mem_of_getElem? (i := 5) rfl)
theorem qw_870 : Cond.selects RX3 yX3_judge yX3_judge ∈ wsL_law := bk_37 _ (List.mem_of_getElem? (i := 6) rfl)
theorem qw_871 : Cond.code yX3_judge cX3_judge 7 none ∈ wsL_law := bk_37 _ (List.mem_of_getElem? (i := 7) rfl)
theorem qw_872 : Cond.fieldLink RX3 59 "ThreeAwake$Post" "need" "[I" ∈ wsL_law := bk_37 _ (List.mem_of_getElem? (i := 8) rfl)
theorem qw_873 : Cond.fieldLink RX3 64 "ThreeAwake$Post" "storm" "[I" ∈ wsL_law := bk_37 _ (List.mem_of_getElem? (i := 9) rfl)
theorem qw_874 : Cond.methodLink RX3 80 Lib.Math.max.name ∈ wsL_law := bk_37 _ (List.mem_of_getElem? (i := 10) rfl)
theorem qw_875 : Cond.methodLink RX3 67 yX7_openBy ∈ wsL_law := bk_37 _ (List.mem_of_getElem? (i := 11) rfl)
theorem qw_876 : Cond.methodLink RX3 71 yX7_lacking ∈ wsL_law := bk_37 _ (List.mem_of_getElem? (i := 12) rfl)
theorem qw_877 : Cond.methodLink RX3 75 yJ6_bitCount_0f7a4 ∈ wsL_law := bk_37 _ (List.mem_of_getElem? (i := 13) rfl)
theorem qw_878 : Cond.methodLink RX9 219 yX3_greatest ∈ wsL_law := bk_37 _ (List.mem_of_getElem? (i := 14) rfl)
theorem qw_879 : Cond.instanceMethod yX3_greatest ∈ wsL_law := bk_37 _ (List.mem_of_getElem? (i := 15) rfl)
theorem qw_880 : Cond.selects RX3 yX3_greatest yX3_greatest ∈ wsL_law := bk_37 _ (List.mem_of_getElem? (i := 16) rfl)
theorem qw_881 : Cond.code yX3_greatest cX3_greatest 3 (some .int) ∈ wsL_law := bk_37 _ (List.mem_of_getElem? (i := 17) rfl)
theorem qw_882 : Cond.methodLink RX3 86 yX3_find ∈ wsL_law := bk_37 _ (List.mem_of_getElem? (i := 18) rfl)
theorem qw_883 : Cond.instanceMethod yX3_find ∈ wsL_law := bk_37 _ (List.mem_of_getElem? (i := 19) rfl)
theorem qw_884 : Cond.selects RX3 yX3_find yX3_find ∈ wsL_law := bk_37 _ (List.mem_of_getElem? (i := 20) rfl)
theorem qw_885 : Cond.code yX3_find cX3_find 5 (some .boolean) ∈ wsL_law := bk_37 _ (List.mem_of_getElem? (i := 21) rfl)
theorem qw_886 : Cond.methodLink RX3 90 yJ7_fill_d0a16 ∈ wsL_law := bk_37 _ (List.mem_of_getElem? (i := 22) rfl)
theorem qw_887 : Cond.static yJ7_fill_d0a16 ∈ wsL_law := bk_37 _ (List.mem_of_getElem? (i := 23) rfl)
theorem qw_888 : Cond.code yJ7_fill_d0a16 cJ7_fill_d0a16 5 none ∈ wsL_law := bk_38 _ (List.mem_of_getElem? (i := 0) rfl)
theorem qw_889 : Cond.methodLink RX3 96 yX3_reach ∈ wsL_law := bk_38 _ (List.mem_of_getElem? (i := 1) rfl)
theorem qw_890 : Cond.static yX3_reach ∈ wsL_law := bk_38 _ (List.mem_of_getElem? (i := 2) rfl)
theorem qw_891 : Cond.code yX3_reach cX3_reach 6 (some .boolean) ∈ wsL_law := bk_38 _ (List.mem_of_getElem? (i := 3) rfl)
theorem qw_892 : Cond.methodLink RX3 100 yX3_codeBehind ∈ wsL_law := bk_38 _ (List.mem_of_getElem? (i := 4) rfl)
theorem qw_893 : Cond.instanceMethod yX3_codeBehind ∈ wsL_law := bk_38 _ (List.mem_of_getElem? (i := 5) rfl)
theorem qw_894 : Cond.selects RX3 yX3_codeBehind yX3_codeBehind ∈ wsL_law := bk_38 _ (List.mem_of_getElem? (i := 6) rfl)
theorem qw_895 : Cond.code yX3_codeBehind cX3_codeBehind 5 (some .int) ∈ wsL_law := bk_38 _ (List.mem_of_getElem? (i := 7) rfl)
theorem qw_896 : Cond.methodLink RX3 107 yX3_lack ∈ wsL_law := bk_38 _ (List.mem_of_getElem? (i := 8) rfl)
theorem qw_897 : Cond.instanceMethod yX3_lack ∈ wsL_law := bk_38 _ (List.mem_of_getElem? (i := 9) rfl)
theorem qw_898 : Cond.selects RX3 yX3_lack yX3_lack ∈ wsL_law := bk_38 _ (List.mem_of_getElem? (i := 10) rfl)
theorem qw_899 : Cond.code yX3_lack cX3_lack 3 (some .int) ∈ wsL_law := bk_38 _ (List.mem_of_getElem? (i := 11) rfl)
theorem qw_900 : Cond.methodLink RX3 103 yX3_hasTime ∈ wsL_law := bk_38 _ (List.mem_of_getElem? (i := 12) rfl)
theorem qw_901 : Cond.instanceMethod yX3_hasTime ∈ wsL_law := bk_38 _ (List.mem_of_getElem? (i := 13) rfl)
theorem qw_902 : Cond.selects RX3 yX3_hasTime yX3_hasTime ∈ wsL_law := bk_38 _ (List.mem_of_getElem? (i := 14) rfl)
theorem qw_903 : Cond.code yX3_hasTime cX3_hasTime 6 (some .boolean) ∈ wsL_law := bk_38 _ (List.mem_of_getElem? (i := 15) rfl)
theorem qw_904 : Cond.methodLink RX9 222 yX3_find ∈ wsL_law := bk_38 _ (List.mem_of_getElem? (i := 16) rfl)
theorem qw_909 : Cond.methodLink RX10 307 yX10_bestRest ∈ wsL_law := bk_38 _ (List.mem_of_getElem? (i := 21) rfl)
theorem qw_910 : Cond.instanceMethod yX10_bestRest ∈ wsL_law := bk_38 _ (List.mem_of_getElem? (i := 22) rfl)
theorem qw_911 : Cond.selects RX10 yX10_bestRest yX10_bestRest ∈ wsL_law := bk_38 _ (List.mem_of_getElem? (i := 23) rfl)
theorem qw_912 : Cond.code yX10_bestRest cX10_bestRest 5 (some .int) ∈ wsL_law := bk_39 _ (List.mem_of_getElem? (i := 0) rfl)
theorem qw_913 : Cond.methodLink RX10 304 yX10_mostTwo ∈ wsL_law := bk_39 _ (List.mem_of_getElem? (i := 1) rfl)
theorem qw_914 : Cond.instanceMethod yX10_mostTwo ∈ wsL_law := bk_39 _ (List.mem_of_getElem? (i := 2) rfl)
theorem qw_915 : Cond.selects RX10 yX10_mostTwo yX10_mostTwo ∈ wsL_law := bk_39 _ (List.mem_of_getElem? (i := 3) rfl)
theorem qw_916 : Cond.code yX10_mostTwo cX10_mostTwo 3 (some .int) ∈ wsL_law := bk_39 _ (List.mem_of_getElem? (i := 4) rfl)
theorem qw_929 : Cond.methodLink RX9 232 yX9_layBeds ∈ wsL_law := bk_39 _ (List.mem_of_getElem? (i := 17) rfl)
theorem qw_930 : Cond.instanceMethod yX9_layBeds ∈ wsL_law := bk_39 _ (List.mem_of_getElem? (i := 18) rfl)
theorem qw_931 : Cond.selects RX9 yX9_layBeds yX9_layBeds ∈ wsL_law := bk_39 _ (List.mem_of_getElem? (i := 19) rfl)
theorem qw_932 : Cond.code yX9_layBeds cX9_layBeds 3 none ∈ wsL_law := bk_39 _ (List.mem_of_getElem? (i := 20) rfl)
theorem qw_941 : Cond.methodLink RX9 236 yX9_opened ∈ wsL_law := bk_40 _ (List.mem_of_getElem? (i := 5) rfl)
theorem qw_942 : Cond.static yX9_opened ∈ wsL_law := bk_40 _ (List.mem_of_getElem? (i := 6) rfl)
theorem qw_943 : Cond.code yX9_opened cX9_opened 5 (some .int) ∈ wsL_law := bk_40 _ (List.mem_of_getElem? (i := 7) rfl)
theorem qw_944 : Cond.fieldLink RX9 310 "ThreeAwake" "POWER" "[I" ∈ wsL_law := bk_40 _ (List.mem_of_getElem? (i := 8) rfl)
theorem qw_949 : Cond.methodLink RX10 310 yX10_isOpened ∈ wsL_law := bk_40 _ (List.mem_of_getElem? (i := 13) rfl)
theorem qw_950 : Cond.instanceMethod yX10_isOpened ∈ wsL_law := bk_40 _ (List.mem_of_getElem? (i := 14) rfl)
theorem qw_951 : Cond.selects RX10 yX10_isOpened yX10_isOpened ∈ wsL_law := bk_40 _ (List.mem_of_getElem? (i := 15) rfl)
theorem qw_952 : Cond.code yX10_isOpened cX10_isOpened 3 (some .boolean) ∈ wsL_law := bk_40 _ (List.mem_of_getElem? (i := 16) rfl)
theorem qw_957 : Cond.constantLong RX9 239 (-1) ∈ wsL_law := bk_40 _ (List.mem_of_getElem? (i := 21) rfl)
theorem qw_958 : Cond.fieldLink RX9 244 "ThreeAwake$Slumber" "missed" "[J" ∈ wsL_law := bk_40 _ (List.mem_of_getElem? (i := 22) rfl)
theorem qw_959 : Cond.methodLink RX9 241 yX9_weighSleep ∈ wsL_law := bk_40 _ (List.mem_of_getElem? (i := 23) rfl)
theorem qw_960 : Cond.instanceMethod yX9_weighSleep ∈ wsL_law := bk_41 _ (List.mem_of_getElem? (i := 0) rfl)
theorem qw_961 : Cond.selects RX9 yX9_weighSleep yX9_weighSleep ∈ wsL_law := bk_41 _ (List.mem_of_getElem? (i := 1) rfl)
theorem qw_962 : Cond.code yX9_weighSleep cX9_weighSleep 2 none ∈ wsL_law := bk_41 _ (List.mem_of_getElem? (i := 2) rfl)
theorem qw_963 : Cond.methodLink RX9 306 yX8_weigh ∈ wsL_law := bk_41 _ (List.mem_of_getElem? (i := 3) rfl)
theorem qw_964 : Cond.instanceMethod yX8_weigh ∈ wsL_law := bk_41 _ (List.mem_of_getElem? (i := 4) rfl)
theorem qw_965 : Cond.selects RX8 yX8_weigh yX8_weigh ∈ wsL_law := bk_41 _ (List.mem_of_getElem? (i := 5) rfl)
theorem qw_966 : Cond.code yX8_weigh cX8_weigh 10 none ∈ wsL_law := bk_41 _ (List.mem_of_getElem? (i := 6) rfl)
theorem qw_967 : Cond.fieldLink RX8 25 "ThreeAwake$Night" "open" "I" ∈ wsL_law := bk_41 _ (List.mem_of_getElem? (i := 7) rfl)
theorem qw_968 : Cond.methodLink RX8 19 yJ7_fill_d0a16 ∈ wsL_law := bk_41 _ (List.mem_of_getElem? (i := 8) rfl)
theorem qw_969 : Cond.methodLink RX8 31 yX8_waysOf ∈ wsL_law := bk_41 _ (List.mem_of_getElem? (i := 9) rfl)
theorem qw_970 : Cond.static yX8_waysOf ∈ wsL_law := bk_41 _ (List.mem_of_getElem? (i := 10) rfl)
theorem qw_971 : Cond.code yX8_waysOf cX8_waysOf 5 (some .long) ∈ wsL_law := bk_41 _ (List.mem_of_getElem? (i := 11) rfl)
theorem qw_972 : Cond.fieldLink RX8 41 "ThreeAwake$Night" "tired" "[I" ∈ wsL_law := bk_41 _ (List.mem_of_getElem? (i := 12) rfl)
theorem qw_973 : Cond.methodLink RX8 35 yX7_lacking ∈ wsL_law := bk_41 _ (List.mem_of_getElem? (i := 13) rfl)
theorem qw_974 : Cond.methodLink RX9 248 yX8_fraction ∈ wsL_law := bk_41 _ (List.mem_of_getElem? (i := 14) rfl)
theorem qw_975 : Cond.instanceMethod yX8_fraction ∈ wsL_law := bk_41 _ (List.mem_of_getElem? (i := 15) rfl)
theorem qw_976 : Cond.selects RX8 yX8_fraction yX8_fraction ∈ wsL_law := bk_41 _ (List.mem_of_getElem? (i := 16) rfl)
theorem qw_977 : Cond.code yX8_fraction cX8_fraction 6 (some .long) ∈ wsL_law := bk_41 _ (List.mem_of_getElem? (i := 17) rfl)
theorem qw_978 : Cond.methodLink RX8 45 yX8_commonDivisor ∈ wsL_law := bk_41 _ (List.mem_of_getElem? (i := 18) rfl)
theorem qw_979 : Cond.static yX8_commonDivisor ∈ wsL_law := bk_41 _ (List.mem_of_getElem? (i := 19) rfl)
theorem qw_980 : Cond.code yX8_commonDivisor cX8_commonDivisor 11 (some .long) ∈ wsL_law := bk_41 _ (List.mem_of_getElem? (i := 20) rfl)
theorem qw_985 : Cond.constantLong RX10 327 (-1) ∈ wsL_law := bk_42 _ (List.mem_of_getElem? (i := 1) rfl)
theorem qw_986 : Cond.methodLink RX10 319 yX10_missedOver ∈ wsL_law := bk_42 _ (List.mem_of_getElem? (i := 2) rfl)
theorem qw_987 : Cond.instanceMethod yX10_missedOver ∈ wsL_law := bk_42 _ (List.mem_of_getElem? (i := 3) rfl)
theorem qw_988 : Cond.selects RX10 yX10_missedOver yX10_missedOver ∈ wsL_law := bk_42 _ (List.mem_of_getElem? (i := 4) rfl)
theorem qw_989 : Cond.code yX10_missedOver cX10_missedOver 12 (some .long) ∈ wsL_law := bk_42 _ (List.mem_of_getElem? (i := 5) rfl)
theorem qw_990 : Cond.methodLink RX10 323 yX10_lowest ∈ wsL_law := bk_42 _ (List.mem_of_getElem? (i := 6) rfl)
theorem qw_991 : Cond.static yX10_lowest ∈ wsL_law := bk_42 _ (List.mem_of_getElem? (i := 7) rfl)
theorem qw_992 : Cond.code yX10_lowest cX10_lowest 5 (some .long) ∈ wsL_law := bk_42 _ (List.mem_of_getElem? (i := 8) rfl)
theorem qw_993 : Cond.constantLong RX10 313 (1000000) ∈ wsL_law := bk_42 _ (List.mem_of_getElem? (i := 9) rfl)
theorem qw_994 : Cond.methodLink RX10 315 yX10_common ∈ wsL_law := bk_42 _ (List.mem_of_getElem? (i := 10) rfl)
theorem qw_995 : Cond.static yX10_common ∈ wsL_law := bk_42 _ (List.mem_of_getElem? (i := 11) rfl)
theorem qw_996 : Cond.code yX10_common cX10_common 10 (some .long) ∈ wsL_law := bk_42 _ (List.mem_of_getElem? (i := 12) rfl)
theorem qw_1009 : Cond.fieldLink RX9 252 "ThreeAwake$Post" "heardCount" "I" ∈ wsL_law := bk_43 _ (List.mem_of_getElem? (i := 1) rfl)
theorem qw_1010 : Cond.fieldLink RX9 255 "ThreeAwake$Post" "heard" "[I" ∈ wsL_law := bk_43 _ (List.mem_of_getElem? (i := 2) rfl)
theorem qw_1027 : Cond.fieldLink RX9 258 "ThreeAwake$Sight" "eyes" "I" ∈ wsL_law := bk_43 _ (List.mem_of_getElem? (i := 19) rfl)
theorem qw_1028 : Cond.methodLink RX9 261 yX9_isAsHeard ∈ wsL_law := bk_43 _ (List.mem_of_getElem? (i := 20) rfl)
theorem qw_1029 : Cond.instanceMethod yX9_isAsHeard ∈ wsL_law := bk_43 _ (List.mem_of_getElem? (i := 21) rfl)
theorem qw_1030 : Cond.selects RX9 yX9_isAsHeard yX9_isAsHeard ∈ wsL_law := bk_43 _ (List.mem_of_getElem? (i := 22) rfl)
theorem qw_1031 : Cond.code yX9_isAsHeard cX9_isAsHeard 7 (some .boolean) ∈ wsL_law := bk_43 _ (List.mem_of_getElem? (i := 23) rfl)
theorem qw_1036 : Cond.methodLink RX10 329 yX10_isFit ∈ wsL_law := bk_44 _ (List.mem_of_getElem? (i := 4) rfl)
theorem qw_1037 : Cond.instanceMethod yX10_isFit ∈ wsL_law := bk_44 _ (List.mem_of_getElem? (i := 5) rfl)
theorem qw_1038 : Cond.selects RX10 yX10_isFit yX10_isFit ∈ wsL_law := bk_44 _ (List.mem_of_getElem? (i := 6) rfl)
theorem qw_1039 : Cond.code yX10_isFit cX10_isFit 6 (some .boolean) ∈ wsL_law := bk_44 _ (List.mem_of_getElem? (i := 7) rfl)
theorem qw_1044 : Cond.methodLink RX9 264 yX9_isImage ∈ wsL_law := bk_44 _ (List.mem_of_getElem? (i := 12) rfl)
theorem qw_1045 : Cond.static yX9_isImage ∈ wsL_law := bk_44 _ (List.mem_of_getElem? (i := 13) rfl)
theorem qw_1046 : Cond.code yX9_isImage cX9_isImage 1 (some .boolean) ∈ wsL_law := bk_44 _ (List.mem_of_getElem? (i := 14) rfl)
theorem qw_1051 : Cond.methodLink RX10 332 yX10_copies ∈ wsL_law := bk_44 _ (List.mem_of_getElem? (i := 19) rfl)
theorem qw_1052 : Cond.instanceMethod yX10_copies ∈ wsL_law := bk_44 _ (List.mem_of_getElem? (i := 20) rfl)
theorem qw_1053 : Cond.selects RX10 yX10_copies yX10_copies ∈ wsL_law := bk_44 _ (List.mem_of_getElem? (i := 21) rfl)
theorem qw_1054 : Cond.code yX10_copies cX10_copies 4 none ∈ wsL_law := bk_44 _ (List.mem_of_getElem? (i := 22) rfl)
theorem qw_1067 : Cond.methodLink RX9 267 yX9_isSheet ∈ wsL_law := bk_45 _ (List.mem_of_getElem? (i := 11) rfl)
theorem qw_1068 : Cond.static yX9_isSheet ∈ wsL_law := bk_45 _ (List.mem_of_getElem? (i := 12) rfl)
theorem qw_1069 : Cond.code yX9_isSheet cX9_isSheet 1 (some .boolean) ∈ wsL_law := bk_45 _ (List.mem_of_getElem? (i := 13) rfl)
theorem qw_1070 : Cond.methodLink RX9 270 yX9_isLane ∈ wsL_law := bk_45 _ (List.mem_of_getElem? (i := 14) rfl)
theorem qw_1071 : Cond.static yX9_isLane ∈ wsL_law := bk_45 _ (List.mem_of_getElem? (i := 15) rfl)
theorem qw_1072 : Cond.code yX9_isLane cX9_isLane 1 (some .boolean) ∈ wsL_law := bk_45 _ (List.mem_of_getElem? (i := 16) rfl)
theorem qw_1073 : Cond.methodLink RX9 273 yX6_begin ∈ wsL_law := bk_45 _ (List.mem_of_getElem? (i := 17) rfl)
theorem qw_1074 : Cond.instanceMethod yX6_begin ∈ wsL_law := bk_45 _ (List.mem_of_getElem? (i := 18) rfl)
theorem qw_1075 : Cond.selects RX6 yX6_begin yX6_begin ∈ wsL_law := bk_45 _ (List.mem_of_getElem? (i := 19) rfl)
theorem qw_1076 : Cond.code yX6_begin cX6_begin 3 none ∈ wsL_law := bk_45 _ (List.mem_of_getElem? (i := 20) rfl)
theorem qw_1077 : Cond.methodLink RX6 22 yJ7_fill_53178 ∈ wsL_law := bk_45 _ (List.mem_of_getElem? (i := 21) rfl)
theorem qw_1082 : Cond.methodLink RX10 338 yX10_isSheet ∈ wsL_law := bk_46 _ (List.mem_of_getElem? (i := 2) rfl)
theorem qw_1083 : Cond.static yX10_isSheet ∈ wsL_law := bk_46 _ (List.mem_of_getElem? (i := 3) rfl)
theorem qw_1084 : Cond.code yX10_isSheet cX10_isSheet 2 (some .boolean) ∈ wsL_law := bk_46 _ (List.mem_of_getElem? (i := 4) rfl)
theorem qw_1085 : Cond.constantLong RX10 336 (2) ∈ wsL_law := bk_46 _ (List.mem_of_getElem? (i := 5) rfl)
theorem qw_1090 : Cond.methodLink RX9 277 yX6_faultAt ∈ wsL_law := bk_46 _ (List.mem_of_getElem? (i := 10) rfl)
theorem qw_1091 : Cond.instanceMethod yX6_faultAt ∈ wsL_law := bk_46 _ (List.mem_of_getElem? (i := 11) rfl)
theorem qw_1092 : Cond.selects RX6 yX6_faultAt yX6_faultAt ∈ wsL_law := bk_46 _ (List.mem_of_getElem? (i := 12) rfl)
theorem qw_1093 : Cond.code yX6_faultAt cX6_faultAt 2 (some .int) ∈ wsL_law := bk_46 _ (List.mem_of_getElem? (i := 13) rfl)
theorem qw_1094 : Cond.methodLink RX6 28 yX6_isNothing ∈ wsL_law := bk_46 _ (List.mem_of_getElem? (i := 14) rfl)
theorem qw_1095 : Cond.instanceMethod yX6_isNothing ∈ wsL_law := bk_46 _ (List.mem_of_getElem? (i := 15) rfl)
theorem qw_1096 : Cond.selects RX6 yX6_isNothing yX6_isNothing ∈ wsL_law := bk_46 _ (List.mem_of_getElem? (i := 16) rfl)
theorem qw_1097 : Cond.code yX6_isNothing cX6_isNothing 1 (some .boolean) ∈ wsL_law := bk_46 _ (List.mem_of_getElem? (i := 17) rfl)
theorem qw_1098 : Cond.methodLink RX9 280 yX6_put ∈ wsL_law := bk_46 _ (List.mem_of_getElem? (i := 18) rfl)
theorem qw_1099 : Cond.instanceMethod yX6_put ∈ wsL_law := bk_46 _ (List.mem_of_getElem? (i := 19) rfl)
theorem qw_1100 : Cond.selects RX6 yX6_put yX6_put ∈ wsL_law := bk_46 _ (List.mem_of_getElem? (i := 20) rfl)
theorem qw_1101 : Cond.code yX6_put cX6_put 3 none ∈ wsL_law := bk_46 _ (List.mem_of_getElem? (i := 21) rfl)
theorem qw_1110 : Cond.fieldLink RX9 287 "ThreeAwake$Sheet" "cell" "[I" ∈ wsL_law := bk_47 _ (List.mem_of_getElem? (i := 6) rfl)
theorem qw_1111 : Cond.fieldLink RX9 290 "ThreeAwake" "lastTorn" "I" ∈ wsL_law := bk_47 _ (List.mem_of_getElem? (i := 7) rfl)
theorem qw_1112 : Cond.methodLink RX9 283 yX6_faultOfPair ∈ wsL_law := bk_47 _ (List.mem_of_getElem? (i := 8) rfl)
theorem qw_1113 : Cond.instanceMethod yX6_faultOfPair ∈ wsL_law := bk_47 _ (List.mem_of_getElem? (i := 9) rfl)
theorem qw_1114 : Cond.selects RX6 yX6_faultOfPair yX6_faultOfPair ∈ wsL_law := bk_47 _ (List.mem_of_getElem? (i := 10) rfl)
theorem qw_1115 : Cond.code yX6_faultOfPair cX6_faultOfPair 4 (some .int) ∈ wsL_law := bk_47 _ (List.mem_of_getElem? (i := 11) rfl)
theorem qw_1116 : Cond.methodLink RX6 32 yX6_faultAt ∈ wsL_law := bk_47 _ (List.mem_of_getElem? (i := 12) rfl)
theorem qw_1121 : Cond.constantLong RX10 341 (13) ∈ wsL_law := bk_47 _ (List.mem_of_getElem? (i := 17) rfl)
theorem qw_1122 : Cond.fieldLink RX10 346 "ThreeAwakeModel" "torn" "I" ∈ wsL_law := bk_47 _ (List.mem_of_getElem? (i := 18) rfl)
theorem qw_1123 : Cond.methodLink RX10 343 yX10_tell ∈ wsL_law := bk_47 _ (List.mem_of_getElem? (i := 19) rfl)
theorem qw_1136 : Cond.fieldLink RX9 296 "ThreeAwake$Sheet" "size" "I" ∈ wsL_law := bk_48 _ (List.mem_of_getElem? (i := 8) rfl)
theorem qw_1137 : Cond.methodLink RX9 293 yX6_isNothing ∈ wsL_law := bk_48 _ (List.mem_of_getElem? (i := 9) rfl)
theorem qw_1138 : Cond.methodLink RX9 299 yX4_storms ∈ wsL_law := bk_48 _ (List.mem_of_getElem? (i := 10) rfl)
theorem qw_1139 : Cond.instanceMethod yX4_storms ∈ wsL_law := bk_48 _ (List.mem_of_getElem? (i := 11) rfl)
theorem qw_1140 : Cond.selects RX4 yX4_storms yX4_storms ∈ wsL_law := bk_48 _ (List.mem_of_getElem? (i := 12) rfl)
theorem qw_1141 : Cond.code yX4_storms cX4_storms 3 (some .int) ∈ wsL_law := bk_48 _ (List.mem_of_getElem? (i := 13) rfl)
theorem qw_1142 : Cond.methodLink RX4 46 yJ6_bitCount_0f7a4 ∈ wsL_law := bk_48 _ (List.mem_of_getElem? (i := 14) rfl)
theorem fl_RX0_9 : FLK RX0 9 0 0 := ⟨RX0, TX0, 2, rfl, inlX0, by decide, qw_124⟩
theorem fl_RX0_15 : FLK RX0 15 0 1 := ⟨RX0, TX0, 2, rfl, inlX0, by decide, qw_125⟩
theorem fl_RX0_22 : FLK RX0 22 7 1 := ⟨RX7, TX7, 4, rfl, inlX7, by decide, qw_816⟩
theorem fl_RX0_35 : FLK RX0 35 7 2 := ⟨RX7, TX7, 4, rfl, inlX7, by decide, qw_817⟩
theorem fl_RX1_9 : FLK RX1 9 1 0 := ⟨RX1, TX1, 4, rfl, inlX1, by decide, qw_55⟩
theorem fl_RX1_15 : FLK RX1 15 1 1 := ⟨RX1, TX1, 4, rfl, inlX1, by decide, qw_56⟩
theorem fl_RX1_18 : FLK RX1 18 1 2 := ⟨RX1, TX1, 4, rfl, inlX1, by decide, qw_57⟩
theorem fl_RX1_22 : FLK RX1 22 1 3 := ⟨RX1, TX1, 4, rfl, inlX1, by decide, qw_58⟩
theorem fl_RX10_7 : FLK RX10 7 10 0 := ⟨RX10, TX10, 40, rfl, inlX10, by decide, qw_135⟩
theorem fl_RX10_13 : FLK RX10 13 10 1 := ⟨RX10, TX10, 40, rfl, inlX10, by decide, qw_137⟩
theorem fl_RX10_17 : FLK RX10 17 10 5 := ⟨RX10, TX10, 40, rfl, inlX10, by decide, qw_138⟩
theorem fl_RX10_20 : FLK RX10 20 10 6 := ⟨RX10, TX10, 40, rfl, inlX10, by decide, qw_139⟩
theorem fl_RX10_23 : FLK RX10 23 10 7 := ⟨RX10, TX10, 40, rfl, inlX10, by decide, qw_140⟩
theorem fl_RX10_26 : FLK RX10 26 10 10 := ⟨RX10, TX10, 40, rfl, inlX10, by decide, qw_141⟩
theorem fl_RX10_29 : FLK RX10 29 10 11 := ⟨RX10, TX10, 40, rfl, inlX10, by decide, qw_142⟩
theorem fl_RX10_32 : FLK RX10 32 10 18 := ⟨RX10, TX10, 40, rfl, inlX10, by decide, qw_143⟩
theorem fl_RX10_35 : FLK RX10 35 10 27 := ⟨RX10, TX10, 40, rfl, inlX10, by decide, qw_144⟩
theorem fl_RX10_38 : FLK RX10 38 10 29 := ⟨RX10, TX10, 40, rfl, inlX10, by decide, qw_145⟩
theorem fl_RX10_41 : FLK RX10 41 10 30 := ⟨RX10, TX10, 40, rfl, inlX10, by decide, qw_146⟩
theorem fl_RX10_44 : FLK RX10 44 10 31 := ⟨RX10, TX10, 40, rfl, inlX10, by decide, qw_147⟩
theorem fl_RX10_47 : FLK RX10 47 10 34 := ⟨RX10, TX10, 40, rfl, inlX10, by decide, qw_148⟩
theorem fl_RX10_50 : FLK RX10 50 10 35 := ⟨RX10, TX10, 40, rfl, inlX10, by decide, qw_149⟩
theorem fl_RX10_53 : FLK RX10 53 10 36 := ⟨RX10, TX10, 40, rfl, inlX10, by decide, qw_150⟩
theorem fl_RX10_56 : FLK RX10 56 10 37 := ⟨RX10, TX10, 40, rfl, inlX10, by decide, qw_151⟩
theorem fl_RX10_59 : FLK RX10 59 10 39 := ⟨RX10, TX10, 40, rfl, inlX10, by decide, qw_152⟩
theorem fl_RX10_68 : FLK RX10 68 10 8 := ⟨RX10, TX10, 40, rfl, inlX10, by decide, qw_157⟩
theorem fl_RX10_72 : FLK RX10 72 10 9 := ⟨RX10, TX10, 40, rfl, inlX10, by decide, qw_158⟩
theorem fl_RX10_75 : FLK RX10 75 10 12 := ⟨RX10, TX10, 40, rfl, inlX10, by decide, qw_159⟩
theorem fl_RX10_79 : FLK RX10 79 10 13 := ⟨RX10, TX10, 40, rfl, inlX10, by decide, qw_160⟩
theorem fl_RX10_82 : FLK RX10 82 10 14 := ⟨RX10, TX10, 40, rfl, inlX10, by decide, qw_161⟩
theorem fl_RX10_85 : FLK RX10 85 10 15 := ⟨RX10, TX10, 40, rfl, inlX10, by decide, qw_162⟩
theorem fl_RX10_88 : FLK RX10 88 10 16 := ⟨RX10, TX10, 40, rfl, inlX10, by decide, qw_163⟩
theorem fl_RX10_91 : FLK RX10 91 10 17 := ⟨RX10, TX10, 40, rfl, inlX10, by decide, qw_164⟩
theorem fl_RX10_94 : FLK RX10 94 10 2 := ⟨RX10, TX10, 40, rfl, inlX10, by decide, qw_169⟩
theorem fl_RX10_97 : FLK RX10 97 10 3 := ⟨RX10, TX10, 40, rfl, inlX10, by decide, qw_170⟩
theorem fl_RX10_104 : FLK RX10 104 10 4 := ⟨RX10, TX10, 40, rfl, inlX10, by decide, qw_171⟩
theorem fl_RX10_107 : FLK RX10 107 10 19 := ⟨RX10, TX10, 40, rfl, inlX10, by decide, qw_187⟩
theorem fl_RX10_116 : FLK RX10 116 10 24 := ⟨RX10, TX10, 40, rfl, inlX10, by decide, qw_388⟩
theorem fl_RX10_119 : FLK RX10 119 10 21 := ⟨RX10, TX10, 40, rfl, inlX10, by decide, qw_396⟩
theorem fl_RX10_122 : FLK RX10 122 10 25 := ⟨RX10, TX10, 40, rfl, inlX10, by decide, qw_391⟩
theorem fl_RX10_125 : FLK RX10 125 10 20 := ⟨RX10, TX10, 40, rfl, inlX10, by decide, qw_389⟩
theorem fl_RX10_140 : FLK RX10 140 10 22 := ⟨RX10, TX10, 40, rfl, inlX10, by decide, qw_390⟩
theorem fl_RX10_151 : FLK RX10 151 10 23 := ⟨RX10, TX10, 40, rfl, inlX10, by decide, qw_401⟩
theorem fl_RX10_225 : FLK RX10 225 10 26 := ⟨RX10, TX10, 40, rfl, inlX10, by decide, qw_659⟩
theorem fl_RX10_273 : FLK RX10 273 10 28 := ⟨RX10, TX10, 40, rfl, inlX10, by decide, qw_833⟩
theorem fl_RX10_276 : FLK RX10 276 10 32 := ⟨RX10, TX10, 40, rfl, inlX10, by decide, qw_842⟩
theorem fl_RX10_279 : FLK RX10 279 10 33 := ⟨RX10, TX10, 40, rfl, inlX10, by decide, qw_843⟩
theorem fl_RX10_346 : FLK RX10 346 10 38 := ⟨RX10, TX10, 40, rfl, inlX10, by decide, qw_1122⟩
theorem fl_RX2_9 : FLK RX2 9 2 0 := ⟨RX2, TX2, 2, rfl, inlX2, by decide, qw_106⟩
theorem fl_RX2_15 : FLK RX2 15 2 1 := ⟨RX2, TX2, 2, rfl, inlX2, by decide, qw_107⟩
theorem fl_RX2_19 : FLK RX2 19 4 1 := ⟨RX4, TX4, 7, rfl, inlX4, by decide, qw_725⟩
theorem fl_RX2_28 : FLK RX2 28 4 4 := ⟨RX4, TX4, 7, rfl, inlX4, by decide, qw_727⟩
theorem fl_RX2_45 : FLK RX2 45 1 2 := ⟨RX1, TX1, 4, rfl, inlX1, by decide, qw_737⟩
theorem fl_RX3_9 : FLK RX3 9 3 0 := ⟨RX3, TX3, 9, rfl, inlX3, by decide, qw_111⟩
theorem fl_RX3_15 : FLK RX3 15 3 1 := ⟨RX3, TX3, 9, rfl, inlX3, by decide, qw_112⟩
theorem fl_RX3_19 : FLK RX3 19 3 2 := ⟨RX3, TX3, 9, rfl, inlX3, by decide, qw_113⟩
theorem fl_RX3_22 : FLK RX3 22 3 3 := ⟨RX3, TX3, 9, rfl, inlX3, by decide, qw_114⟩
theorem fl_RX3_25 : FLK RX3 25 3 4 := ⟨RX3, TX3, 9, rfl, inlX3, by decide, qw_115⟩
theorem fl_RX3_28 : FLK RX3 28 3 5 := ⟨RX3, TX3, 9, rfl, inlX3, by decide, qw_116⟩
theorem fl_RX3_31 : FLK RX3 31 3 6 := ⟨RX3, TX3, 9, rfl, inlX3, by decide, qw_117⟩
theorem fl_RX3_34 : FLK RX3 34 3 7 := ⟨RX3, TX3, 9, rfl, inlX3, by decide, qw_118⟩
theorem fl_RX3_37 : FLK RX3 37 3 8 := ⟨RX3, TX3, 9, rfl, inlX3, by decide, qw_120⟩
theorem fl_RX3_41 : FLK RX3 41 1 1 := ⟨RX1, TX1, 4, rfl, inlX1, by decide, qw_865⟩
theorem fl_RX3_44 : FLK RX3 44 7 1 := ⟨RX7, TX7, 4, rfl, inlX7, by decide, qw_866⟩
theorem fl_RX3_49 : FLK RX3 49 7 2 := ⟨RX7, TX7, 4, rfl, inlX7, by decide, qw_867⟩
theorem fl_RX3_59 : FLK RX3 59 4 2 := ⟨RX4, TX4, 7, rfl, inlX4, by decide, qw_872⟩
theorem fl_RX3_64 : FLK RX3 64 4 3 := ⟨RX4, TX4, 7, rfl, inlX4, by decide, qw_873⟩
theorem fl_RX4_9 : FLK RX4 9 4 0 := ⟨RX4, TX4, 7, rfl, inlX4, by decide, qw_62⟩
theorem fl_RX4_15 : FLK RX4 15 4 1 := ⟨RX4, TX4, 7, rfl, inlX4, by decide, qw_63⟩
theorem fl_RX4_18 : FLK RX4 18 4 2 := ⟨RX4, TX4, 7, rfl, inlX4, by decide, qw_64⟩
theorem fl_RX4_21 : FLK RX4 21 4 3 := ⟨RX4, TX4, 7, rfl, inlX4, by decide, qw_65⟩
theorem fl_RX4_24 : FLK RX4 24 4 4 := ⟨RX4, TX4, 7, rfl, inlX4, by decide, qw_66⟩
theorem fl_RX4_27 : FLK RX4 27 4 5 := ⟨RX4, TX4, 7, rfl, inlX4, by decide, qw_67⟩
theorem fl_RX4_30 : FLK RX4 30 4 6 := ⟨RX4, TX4, 7, rfl, inlX4, by decide, qw_68⟩
theorem fl_RX5_11 : FLK RX5 11 5 0 := ⟨RX5, TX5, 15, rfl, inlX5, by decide, qw_79⟩
theorem fl_RX5_15 : FLK RX5 15 5 1 := ⟨RX5, TX5, 15, rfl, inlX5, by decide, qw_80⟩
theorem fl_RX5_19 : FLK RX5 19 5 2 := ⟨RX5, TX5, 15, rfl, inlX5, by decide, qw_81⟩
theorem fl_RX5_22 : FLK RX5 22 5 3 := ⟨RX5, TX5, 15, rfl, inlX5, by decide, qw_82⟩
theorem fl_RX5_25 : FLK RX5 25 5 4 := ⟨RX5, TX5, 15, rfl, inlX5, by decide, qw_83⟩
theorem fl_RX5_31 : FLK RX5 31 5 5 := ⟨RX5, TX5, 15, rfl, inlX5, by decide, qw_85⟩
theorem fl_RX5_38 : FLK RX5 38 5 6 := ⟨RX5, TX5, 15, rfl, inlX5, by decide, qw_87⟩
theorem fl_RX5_42 : FLK RX5 42 5 7 := ⟨RX5, TX5, 15, rfl, inlX5, by decide, qw_88⟩
theorem fl_RX5_45 : FLK RX5 45 5 8 := ⟨RX5, TX5, 15, rfl, inlX5, by decide, qw_89⟩
theorem fl_RX5_48 : FLK RX5 48 5 9 := ⟨RX5, TX5, 15, rfl, inlX5, by decide, qw_90⟩
theorem fl_RX5_51 : FLK RX5 51 5 10 := ⟨RX5, TX5, 15, rfl, inlX5, by decide, qw_91⟩
theorem fl_RX5_54 : FLK RX5 54 5 11 := ⟨RX5, TX5, 15, rfl, inlX5, by decide, qw_92⟩
theorem fl_RX5_58 : FLK RX5 58 5 12 := ⟨RX5, TX5, 15, rfl, inlX5, by decide, qw_93⟩
theorem fl_RX5_61 : FLK RX5 61 5 13 := ⟨RX5, TX5, 15, rfl, inlX5, by decide, qw_94⟩
theorem fl_RX5_64 : FLK RX5 64 5 14 := ⟨RX5, TX5, 15, rfl, inlX5, by decide, qw_95⟩
theorem fl_RX5_125 : FLK RX5 125 1 0 := ⟨RX1, TX1, 4, rfl, inlX1, by decide, qw_258⟩
theorem fl_RX5_131 : FLK RX5 131 1 2 := ⟨RX1, TX1, 4, rfl, inlX1, by decide, qw_330⟩
theorem fl_RX5_138 : FLK RX5 138 1 3 := ⟨RX1, TX1, 4, rfl, inlX1, by decide, qw_331⟩
theorem fl_RX5_141 : FLK RX5 141 4 1 := ⟨RX4, TX4, 7, rfl, inlX4, by decide, qw_332⟩
theorem fl_RX5_148 : FLK RX5 148 1 1 := ⟨RX1, TX1, 4, rfl, inlX1, by decide, qw_259⟩
theorem fl_RX5_150 : FLK RX5 150 4 2 := ⟨RX4, TX4, 7, rfl, inlX4, by decide, qw_357⟩
theorem fl_RX5_152 : FLK RX5 152 4 3 := ⟨RX4, TX4, 7, rfl, inlX4, by decide, qw_257⟩
theorem fl_RX5_154 : FLK RX5 154 4 4 := ⟨RX4, TX4, 7, rfl, inlX4, by decide, qw_260⟩
theorem fl_RX5_156 : FLK RX5 156 4 0 := ⟨RX4, TX4, 7, rfl, inlX4, by decide, qw_370⟩
theorem fl_RX6_9 : FLK RX6 9 6 0 := ⟨RX6, TX6, 3, rfl, inlX6, by decide, qw_72⟩
theorem fl_RX6_15 : FLK RX6 15 6 1 := ⟨RX6, TX6, 3, rfl, inlX6, by decide, qw_73⟩
theorem fl_RX6_18 : FLK RX6 18 6 2 := ⟨RX6, TX6, 3, rfl, inlX6, by decide, qw_74⟩
theorem fl_RX7_9 : FLK RX7 9 7 0 := ⟨RX7, TX7, 4, rfl, inlX7, by decide, qw_99⟩
theorem fl_RX7_15 : FLK RX7 15 7 1 := ⟨RX7, TX7, 4, rfl, inlX7, by decide, qw_100⟩
theorem fl_RX7_19 : FLK RX7 19 7 2 := ⟨RX7, TX7, 4, rfl, inlX7, by decide, qw_101⟩
theorem fl_RX7_22 : FLK RX7 22 7 3 := ⟨RX7, TX7, 4, rfl, inlX7, by decide, qw_102⟩
theorem fl_RX7_25 : FLK RX7 25 1 3 := ⟨RX1, TX1, 4, rfl, inlX1, by decide, qw_520⟩
theorem fl_RX7_34 : FLK RX7 34 1 2 := ⟨RX1, TX1, 4, rfl, inlX1, by decide, qw_521⟩
theorem fl_RX8_9 : FLK RX8 9 8 0 := ⟨RX8, TX8, 2, rfl, inlX8, by decide, qw_129⟩
theorem fl_RX8_15 : FLK RX8 15 8 1 := ⟨RX8, TX8, 2, rfl, inlX8, by decide, qw_130⟩
theorem fl_RX8_25 : FLK RX8 25 2 1 := ⟨RX2, TX2, 2, rfl, inlX2, by decide, qw_967⟩
theorem fl_RX8_41 : FLK RX8 41 2 0 := ⟨RX2, TX2, 2, rfl, inlX2, by decide, qw_972⟩
theorem fl_RX9_10 : FLK RX9 10 9 0 := ⟨RX9, TX9, 13, rfl, inlX9, by decide, qw_16⟩
theorem fl_RX9_19 : FLK RX9 19 9 1 := ⟨RX9, TX9, 13, rfl, inlX9, by decide, qw_20⟩
theorem fl_RX9_23 : FLK RX9 23 9 2 := ⟨RX9, TX9, 13, rfl, inlX9, by decide, qw_21⟩
theorem fl_RX9_30 : FLK RX9 30 9 4 := ⟨RX9, TX9, 13, rfl, inlX9, by decide, qw_25⟩
theorem fl_RX9_37 : FLK RX9 37 9 6 := ⟨RX9, TX9, 13, rfl, inlX9, by decide, qw_29⟩
theorem fl_RX9_44 : FLK RX9 44 9 7 := ⟨RX9, TX9, 13, rfl, inlX9, by decide, qw_33⟩
theorem fl_RX9_51 : FLK RX9 51 9 8 := ⟨RX9, TX9, 13, rfl, inlX9, by decide, qw_37⟩
theorem fl_RX9_58 : FLK RX9 58 9 9 := ⟨RX9, TX9, 13, rfl, inlX9, by decide, qw_41⟩
theorem fl_RX9_65 : FLK RX9 65 9 10 := ⟨RX9, TX9, 13, rfl, inlX9, by decide, qw_45⟩
theorem fl_RX9_72 : FLK RX9 72 9 11 := ⟨RX9, TX9, 13, rfl, inlX9, by decide, qw_49⟩
theorem fl_RX9_76 : FLK RX9 76 9 12 := ⟨RX9, TX9, 13, rfl, inlX9, by decide, qw_51⟩
theorem fl_RX9_84 : FLK RX9 84 5 1 := ⟨RX5, TX5, 15, rfl, inlX5, by decide, qw_193⟩
theorem fl_RX9_92 : FLK RX9 92 5 3 := ⟨RX5, TX5, 15, rfl, inlX5, by decide, qw_205⟩
theorem fl_RX9_95 : FLK RX9 95 5 5 := ⟨RX5, TX5, 15, rfl, inlX5, by decide, qw_206⟩
theorem fl_RX9_100 : FLK RX9 100 5 6 := ⟨RX5, TX5, 15, rfl, inlX5, by decide, qw_207⟩
theorem fl_RX9_104 : FLK RX9 104 9 3 := ⟨RX9, TX9, 13, rfl, inlX9, by decide, qw_208⟩
theorem fl_RX9_107 : FLK RX9 107 5 4 := ⟨RX5, TX5, 15, rfl, inlX5, by decide, qw_209⟩
theorem fl_RX9_110 : FLK RX9 110 5 2 := ⟨RX5, TX5, 15, rfl, inlX5, by decide, qw_462⟩
theorem fl_RX9_113 : FLK RX9 113 1 0 := ⟨RX1, TX1, 4, rfl, inlX1, by decide, qw_471⟩
theorem fl_RX9_116 : FLK RX9 116 1 1 := ⟨RX1, TX1, 4, rfl, inlX1, by decide, qw_472⟩
theorem fl_RX9_126 : FLK RX9 126 1 2 := ⟨RX1, TX1, 4, rfl, inlX1, by decide, qw_481⟩
theorem fl_RX9_129 : FLK RX9 129 4 0 := ⟨RX4, TX4, 7, rfl, inlX4, by decide, qw_482⟩
theorem fl_RX9_139 : FLK RX9 139 7 0 := ⟨RX7, TX7, 4, rfl, inlX7, by decide, qw_502⟩
theorem fl_RX9_142 : FLK RX9 142 4 1 := ⟨RX4, TX4, 7, rfl, inlX4, by decide, qw_503⟩
theorem fl_RX9_151 : FLK RX9 151 4 2 := ⟨RX4, TX4, 7, rfl, inlX4, by decide, qw_541⟩
theorem fl_RX9_154 : FLK RX9 154 4 3 := ⟨RX4, TX4, 7, rfl, inlX4, by decide, qw_542⟩
theorem fl_RX9_157 : FLK RX9 157 4 4 := ⟨RX4, TX4, 7, rfl, inlX4, by decide, qw_570⟩
theorem fl_RX9_188 : FLK RX9 188 7 2 := ⟨RX7, TX7, 4, rfl, inlX7, by decide, qw_693⟩
theorem fl_RX9_203 : FLK RX9 203 2 0 := ⟨RX2, TX2, 2, rfl, inlX2, by decide, qw_720⟩
theorem fl_RX9_204 : FLK RX9 204 2 1 := ⟨RX2, TX2, 2, rfl, inlX2, by decide, qw_766⟩
theorem fl_RX9_214 : FLK RX9 214 0 0 := ⟨RX0, TX0, 2, rfl, inlX0, by decide, qw_811⟩
theorem fl_RX9_225 : FLK RX9 225 3 0 := ⟨RX3, TX3, 9, rfl, inlX3, by decide, qw_860⟩
theorem fl_RX9_244 : FLK RX9 244 8 0 := ⟨RX8, TX8, 2, rfl, inlX8, by decide, qw_958⟩
theorem fl_RX9_252 : FLK RX9 252 4 6 := ⟨RX4, TX4, 7, rfl, inlX4, by decide, qw_1009⟩
theorem fl_RX9_255 : FLK RX9 255 4 5 := ⟨RX4, TX4, 7, rfl, inlX4, by decide, qw_1010⟩
theorem fl_RX9_258 : FLK RX9 258 7 1 := ⟨RX7, TX7, 4, rfl, inlX7, by decide, qw_1027⟩
theorem fl_RX9_287 : FLK RX9 287 6 2 := ⟨RX6, TX6, 3, rfl, inlX6, by decide, qw_1110⟩
theorem fl_RX9_290 : FLK RX9 290 9 5 := ⟨RX9, TX9, 13, rfl, inlX9, by decide, qw_1111⟩
theorem fl_RX9_296 : FLK RX9 296 6 1 := ⟨RX6, TX6, 3, rfl, inlX6, by decide, qw_1136⟩
theorem fp_0_1 : FPK 0 1 .int := ⟨RX0, TX0, 2, tyX0, rfl, tyX0_ok, nmX0, rfl, by decide +kernel⟩
theorem fp_1_0 : FPK 1 0 .int := ⟨RX1, TX1, 4, tyX1, rfl, tyX1_ok, nmX1, rfl, by decide +kernel⟩
theorem fp_1_1 : FPK 1 1 .int := ⟨RX1, TX1, 4, tyX1, rfl, tyX1_ok, nmX1, rfl, by decide +kernel⟩
theorem fp_2_1 : FPK 2 1 .int := ⟨RX2, TX2, 2, tyX2, rfl, tyX2_ok, nmX2, rfl, by decide +kernel⟩
theorem fp_3_1 : FPK 3 1 .int := ⟨RX3, TX3, 9, tyX3, rfl, tyX3_ok, nmX3, rfl, by decide +kernel⟩
theorem fp_3_2 : FPK 3 2 .int := ⟨RX3, TX3, 9, tyX3, rfl, tyX3_ok, nmX3, rfl, by decide +kernel⟩
theorem fp_3_3 : FPK 3 3 .int := ⟨RX3, TX3, 9, tyX3, rfl, tyX3_ok, nmX3, rfl, by decide +kernel⟩
theorem fp_3_4 : FPK 3 4 .int := ⟨RX3, TX3, 9, tyX3, rfl, tyX3_ok, nmX3, rfl, by decide +kernel⟩
theorem fp_4_6 : FPK 4 6 .int := ⟨RX4, TX4, 7, tyX4, rfl, tyX4_ok, nmX4, rfl, by decide +kernel⟩
theorem fp_5_1 : FPK 5 1 .int := ⟨RX5, TX5, 15, tyX5, rfl, tyX5_ok, nmX5, rfl, by decide +kernel⟩
theorem fp_5_2 : FPK 5 2 .int := ⟨RX5, TX5, 15, tyX5, rfl, tyX5_ok, nmX5, rfl, by decide +kernel⟩
theorem fp_5_3 : FPK 5 3 .int := ⟨RX5, TX5, 15, tyX5, rfl, tyX5_ok, nmX5, rfl, by decide +kernel⟩
theorem fp_5_4 : FPK 5 4 .int := ⟨RX5, TX5, 15, tyX5, rfl, tyX5_ok, nmX5, rfl, by decide +kernel⟩
theorem fp_5_7 : FPK 5 7 .int := ⟨RX5, TX5, 15, tyX5, rfl, tyX5_ok, nmX5, rfl, by decide +kernel⟩
theorem fp_5_8 : FPK 5 8 .int := ⟨RX5, TX5, 15, tyX5, rfl, tyX5_ok, nmX5, rfl, by decide +kernel⟩
theorem fp_5_9 : FPK 5 9 .int := ⟨RX5, TX5, 15, tyX5, rfl, tyX5_ok, nmX5, rfl, by decide +kernel⟩
theorem fp_5_10 : FPK 5 10 .int := ⟨RX5, TX5, 15, tyX5, rfl, tyX5_ok, nmX5, rfl, by decide +kernel⟩
theorem fp_5_11 : FPK 5 11 .boolean := ⟨RX5, TX5, 15, tyX5, rfl, tyX5_ok, nmX5, rfl, by decide +kernel⟩
theorem fp_5_12 : FPK 5 12 .int := ⟨RX5, TX5, 15, tyX5, rfl, tyX5_ok, nmX5, rfl, by decide +kernel⟩
theorem fp_5_13 : FPK 5 13 .int := ⟨RX5, TX5, 15, tyX5, rfl, tyX5_ok, nmX5, rfl, by decide +kernel⟩
theorem fp_5_14 : FPK 5 14 .int := ⟨RX5, TX5, 15, tyX5, rfl, tyX5_ok, nmX5, rfl, by decide +kernel⟩
theorem fp_6_0 : FPK 6 0 .int := ⟨RX6, TX6, 3, tyX6, rfl, tyX6_ok, nmX6, rfl, by decide +kernel⟩
theorem fp_6_1 : FPK 6 1 .int := ⟨RX6, TX6, 3, tyX6, rfl, tyX6_ok, nmX6, rfl, by decide +kernel⟩
theorem fp_7_1 : FPK 7 1 .int := ⟨RX7, TX7, 4, tyX7, rfl, tyX7_ok, nmX7, rfl, by decide +kernel⟩
theorem fp_7_2 : FPK 7 2 .int := ⟨RX7, TX7, 4, tyX7, rfl, tyX7_ok, nmX7, rfl, by decide +kernel⟩
theorem fp_7_3 : FPK 7 3 .int := ⟨RX7, TX7, 4, tyX7, rfl, tyX7_ok, nmX7, rfl, by decide +kernel⟩
theorem fp_8_1 : FPK 8 1 .long := ⟨RX8, TX8, 2, tyX8, rfl, tyX8_ok, nmX8, rfl, by decide +kernel⟩
theorem fp_9_3 : FPK 9 3 .int := ⟨RX9, TX9, 13, tyX9, rfl, tyX9_ok, nmX9, rfl, by decide +kernel⟩
theorem fp_9_5 : FPK 9 5 .int := ⟨RX9, TX9, 13, tyX9, rfl, tyX9_ok, nmX9, rfl, by decide +kernel⟩
theorem fp_10_2 : FPK 10 2 .int := ⟨RX10, TX10, 40, tyX10, rfl, tyX10_ok, nmX10, rfl, by decide +kernel⟩
theorem fp_10_3 : FPK 10 3 .int := ⟨RX10, TX10, 40, tyX10, rfl, tyX10_ok, nmX10, rfl, by decide +kernel⟩
theorem fp_10_4 : FPK 10 4 .int := ⟨RX10, TX10, 40, tyX10, rfl, tyX10_ok, nmX10, rfl, by decide +kernel⟩
theorem fp_10_8 : FPK 10 8 .int := ⟨RX10, TX10, 40, tyX10, rfl, tyX10_ok, nmX10, rfl, by decide +kernel⟩
theorem fp_10_9 : FPK 10 9 .int := ⟨RX10, TX10, 40, tyX10, rfl, tyX10_ok, nmX10, rfl, by decide +kernel⟩
theorem fp_10_12 : FPK 10 12 .boolean := ⟨RX10, TX10, 40, tyX10, rfl, tyX10_ok, nmX10, rfl, by decide +kernel⟩
theorem fp_10_13 : FPK 10 13 .int := ⟨RX10, TX10, 40, tyX10, rfl, tyX10_ok, nmX10, rfl, by decide +kernel⟩
theorem fp_10_14 : FPK 10 14 .int := ⟨RX10, TX10, 40, tyX10, rfl, tyX10_ok, nmX10, rfl, by decide +kernel⟩
theorem fp_10_15 : FPK 10 15 .int := ⟨RX10, TX10, 40, tyX10, rfl, tyX10_ok, nmX10, rfl, by decide +kernel⟩
theorem fp_10_16 : FPK 10 16 .int := ⟨RX10, TX10, 40, tyX10, rfl, tyX10_ok, nmX10, rfl, by decide +kernel⟩
theorem fp_10_17 : FPK 10 17 .int := ⟨RX10, TX10, 40, tyX10, rfl, tyX10_ok, nmX10, rfl, by decide +kernel⟩
theorem fp_10_19 : FPK 10 19 .int := ⟨RX10, TX10, 40, tyX10, rfl, tyX10_ok, nmX10, rfl, by decide +kernel⟩
theorem fp_10_20 : FPK 10 20 .int := ⟨RX10, TX10, 40, tyX10, rfl, tyX10_ok, nmX10, rfl, by decide +kernel⟩
theorem fp_10_21 : FPK 10 21 .int := ⟨RX10, TX10, 40, tyX10, rfl, tyX10_ok, nmX10, rfl, by decide +kernel⟩
theorem fp_10_22 : FPK 10 22 .int := ⟨RX10, TX10, 40, tyX10, rfl, tyX10_ok, nmX10, rfl, by decide +kernel⟩
theorem fp_10_23 : FPK 10 23 .int := ⟨RX10, TX10, 40, tyX10, rfl, tyX10_ok, nmX10, rfl, by decide +kernel⟩
theorem fp_10_24 : FPK 10 24 .int := ⟨RX10, TX10, 40, tyX10, rfl, tyX10_ok, nmX10, rfl, by decide +kernel⟩
theorem fp_10_25 : FPK 10 25 .int := ⟨RX10, TX10, 40, tyX10, rfl, tyX10_ok, nmX10, rfl, by decide +kernel⟩
theorem fp_10_26 : FPK 10 26 .int := ⟨RX10, TX10, 40, tyX10, rfl, tyX10_ok, nmX10, rfl, by decide +kernel⟩
theorem fp_10_28 : FPK 10 28 .int := ⟨RX10, TX10, 40, tyX10, rfl, tyX10_ok, nmX10, rfl, by decide +kernel⟩
theorem fp_10_32 : FPK 10 32 .int := ⟨RX10, TX10, 40, tyX10, rfl, tyX10_ok, nmX10, rfl, by decide +kernel⟩
theorem fp_10_33 : FPK 10 33 .int := ⟨RX10, TX10, 40, tyX10, rfl, tyX10_ok, nmX10, rfl, by decide +kernel⟩
theorem fp_10_38 : FPK 10 38 .int := ⟨RX10, TX10, 40, tyX10, rfl, tyX10_ok, nmX10, rfl, by decide +kernel⟩
theorem mk_J0_charAt_5068e : MK yJ0_charAt_5068e cJ0_charAt_5068e 2 (some .char) 1 := ⟨qw_292, qw_280, by decide +kernel⟩
theorem mv_J0_charAt_5068e : MV yJ0_charAt_5068e := ⟨qw_290, qw_291⟩
theorem mk_J0_checkIndex_df160 : MK yJ0_checkIndex_df160 cJ0_checkIndex_df160 2 none 2 := ⟨qw_303, qw_280, by decide +kernel⟩
theorem ms_J0_checkIndex_df160 : Cond.static yJ0_checkIndex_df160 ∈ wsL_law := qw_302
theorem mk_J0_coder_7d493 : MK yJ0_coder_7d493 cJ0_coder_7d493 1 (some .byte) 0 := ⟨qw_286, qw_280, by decide +kernel⟩
theorem mv_J0_coder_7d493 : MV yJ0_coder_7d493 := ⟨qw_284, qw_285⟩
theorem mk_J0_isLatin1_aae02 : MK yJ0_isLatin1_aae02 cJ0_isLatin1_aae02 1 (some .boolean) 0 := ⟨qw_296, qw_280, by decide +kernel⟩
theorem mv_J0_isLatin1_aae02 : MV yJ0_isLatin1_aae02 := ⟨qw_294, qw_295⟩
theorem mk_J0_length_8abf5 : MK yJ0_length_8abf5 cJ0_length_8abf5 1 (some .int) 0 := ⟨qw_281, qw_280, by decide +kernel⟩
theorem mv_J0_length_8abf5 : MV yJ0_length_8abf5 := ⟨qw_278, qw_279⟩
theorem mk_J1_charAt_3b067 : MK yJ1_charAt_3b067 cJ1_charAt_3b067 2 (some .char) 2 := ⟨qw_300, qw_299, by decide +kernel⟩
theorem ms_J1_charAt_3b067 : Cond.static yJ1_charAt_3b067 ∈ wsL_law := qw_298
theorem mk_J3_checkIndex_8e157 : MK yJ3_checkIndex_8e157 cJ3_checkIndex_8e157 3 (some .int) 3 := ⟨qw_308, qw_307, by decide +kernel⟩
theorem ms_J3_checkIndex_8e157 : Cond.static yJ3_checkIndex_8e157 ∈ wsL_law := qw_306
theorem mk_J6_bitCount_0f7a4 : MK yJ6_bitCount_0f7a4 cJ6_bitCount_0f7a4 1 (some .int) 1 := ⟨qw_698, qw_697, by decide +kernel⟩
theorem ms_J6_bitCount_0f7a4 : Cond.static yJ6_bitCount_0f7a4 ∈ wsL_law := qw_696
theorem mk_J7_fill_53178 : MK yJ7_fill_53178 cJ7_fill_53178 4 none 2 := ⟨qw_225, qw_224, by decide +kernel⟩
theorem ms_J7_fill_53178 : Cond.static yJ7_fill_53178 ∈ wsL_law := qw_223
theorem mk_J7_fill_d0a16 : MK yJ7_fill_d0a16 cJ7_fill_d0a16 5 none 2 := ⟨qw_888, qw_224, by decide +kernel⟩
theorem ms_J7_fill_d0a16 : Cond.static yJ7_fill_d0a16 ∈ wsL_law := qw_887
theorem mk_X0_fill : MK yX0_fill cX0_fill 5 (some .boolean) 4 := ⟨qw_822, qw_44, by decide +kernel⟩
theorem ms_X0_fill : Cond.static yX0_fill ∈ wsL_law := qw_821
theorem mk_X0_shortest : MK yX0_shortest cX0_shortest 5 (some .int) 2 := ⟨qw_815, qw_44, by decide +kernel⟩
theorem mv_X0_shortest : MV yX0_shortest := ⟨qw_813, qw_814⟩
theorem mk_X10_allLack : MK yX10_allLack cX10_allLack 4 (some .int) 1 := ⟨qw_851, qw_5, by decide +kernel⟩
theorem mv_X10_allLack : MV yX10_allLack := ⟨qw_849, qw_850⟩
theorem mk_X10_areWatches : MK yX10_areWatches cX10_areWatches 3 (some .boolean) 0 := ⟨qw_457, qw_5, by decide +kernel⟩
theorem mv_X10_areWatches : MV yX10_areWatches := ⟨qw_455, qw_456⟩
theorem mk_X10_bestRest : MK yX10_bestRest cX10_bestRest 5 (some .int) 0 := ⟨qw_912, qw_5, by decide +kernel⟩
theorem mv_X10_bestRest : MV yX10_bestRest := ⟨qw_910, qw_911⟩
theorem mk_X10_bitsOf : MK yX10_bitsOf cX10_bitsOf 3 (some .int) 1 := ⟨qw_715, qw_5, by decide +kernel⟩
theorem ms_X10_bitsOf : Cond.static yX10_bitsOf ∈ wsL_law := qw_714
theorem mk_X10_canRest : MK yX10_canRest cX10_canRest 7 (some .boolean) 2 := ⟨qw_841, qw_5, by decide +kernel⟩
theorem mv_X10_canRest : MV yX10_canRest := ⟨qw_839, qw_840⟩
theorem mk_X10_common : MK yX10_common cX10_common 10 (some .long) 2 := ⟨qw_996, qw_5, by decide +kernel⟩
theorem ms_X10_common : Cond.static yX10_common ∈ wsL_law := qw_995
theorem mk_X10_copies : MK yX10_copies cX10_copies 4 none 2 := ⟨qw_1054, qw_5, by decide +kernel⟩
theorem mv_X10_copies : MV yX10_copies := ⟨qw_1052, qw_1053⟩
theorem mk_X10_countOf : MK yX10_countOf cX10_countOf 7 (some .int) 2 := ⟨qw_654, qw_5, by decide +kernel⟩
theorem mv_X10_countOf : MV yX10_countOf := ⟨qw_652, qw_653⟩
theorem mk_X10_ends : MK yX10_ends cX10_ends 4 (some .boolean) 3 := ⟨qw_425, qw_5, by decide +kernel⟩
theorem mv_X10_ends : MV yX10_ends := ⟨qw_423, qw_424⟩
theorem mk_X10_findEyes : MK yX10_findEyes cX10_findEyes 2 none 0 := ⟨qw_832, qw_5, by decide +kernel⟩
theorem mv_X10_findEyes : MV yX10_findEyes := ⟨qw_830, qw_831⟩
theorem mk_X10_firstDraft : MK yX10_firstDraft cX10_firstDraft 2 none 0 := ⟨qw_156, qw_5, by decide +kernel⟩
theorem mv_X10_firstDraft : MV yX10_firstDraft := ⟨qw_154, qw_155⟩
theorem mk_X10_flag : MK yX10_flag cX10_flag 1 (some .int) 1 := ⟨qw_662, qw_5, by decide +kernel⟩
theorem ms_X10_flag : Cond.static yX10_flag ∈ wsL_law := qw_661
theorem mk_X10_glassEyes : MK yX10_glassEyes cX10_glassEyes 3 (some .int) 0 := ⟨qw_712, qw_5, by decide +kernel⟩
theorem mv_X10_glassEyes : MV yX10_glassEyes := ⟨qw_710, qw_711⟩
theorem mk_X10_goes : MK yX10_goes cX10_goes 5 none 1 := ⟨qw_753, qw_5, by decide +kernel⟩
theorem mv_X10_goes : MV yX10_goes := ⟨qw_751, qw_752⟩
theorem mk_X10_in : MK yX10_in cX10_in 6 (some .boolean) 3 := ⟨qw_200, qw_5, by decide +kernel⟩
theorem ms_X10_in : Cond.static yX10_in ∈ wsL_law := qw_199
theorem mk_X10_is : MK yX10_is cX10_is 5 (some .boolean) 4 := ⟨qw_421, qw_5, by decide +kernel⟩
theorem mv_X10_is : MV yX10_is := ⟨qw_419, qw_420⟩
theorem mk_X10_isCalm : MK yX10_isCalm cX10_isCalm 4 (some .boolean) 1 := ⟨qw_837, qw_5, by decide +kernel⟩
theorem mv_X10_isCalm : MV yX10_isCalm := ⟨qw_835, qw_836⟩
theorem mk_X10_isEye : MK yX10_isEye cX10_isEye 2 (some .boolean) 1 := ⟨qw_532, qw_5, by decide +kernel⟩
theorem mv_X10_isEye : MV yX10_isEye := ⟨qw_530, qw_531⟩
theorem mk_X10_isFit : MK yX10_isFit cX10_isFit 6 (some .boolean) 2 := ⟨qw_1039, qw_5, by decide +kernel⟩
theorem mv_X10_isFit : MV yX10_isFit := ⟨qw_1037, qw_1038⟩
theorem mk_X10_isGlass : MK yX10_isGlass cX10_isGlass 2 (some .boolean) 1 := ⟨qw_630, qw_5, by decide +kernel⟩
theorem mv_X10_isGlass : MV yX10_isGlass := ⟨qw_628, qw_629⟩
theorem mk_X10_isHere : MK yX10_isHere cX10_isHere 2 (some .boolean) 1 := ⟨qw_658, qw_5, by decide +kernel⟩
theorem mv_X10_isHere : MV yX10_isHere := ⟨qw_656, qw_657⟩
theorem mk_X10_isLawful : MK yX10_isLawful cX10_isLawful 3 (some .boolean) 2 := ⟨qw_683, qw_5, by decide +kernel⟩
theorem mv_X10_isLawful : MV yX10_isLawful := ⟨qw_681, qw_682⟩
theorem mk_X10_isOpened : MK yX10_isOpened cX10_isOpened 3 (some .boolean) 2 := ⟨qw_952, qw_5, by decide +kernel⟩
theorem mv_X10_isOpened : MV yX10_isOpened := ⟨qw_950, qw_951⟩
theorem mk_X10_isPart : MK yX10_isPart cX10_isPart 1 (some .boolean) 1 := ⟨qw_708, qw_5, by decide +kernel⟩
theorem ms_X10_isPart : Cond.static yX10_isPart ∈ wsL_law := qw_707
theorem mk_X10_isQuarter : MK yX10_isQuarter cX10_isQuarter 2 (some .boolean) 1 := ⟨qw_561, qw_5, by decide +kernel⟩
theorem mv_X10_isQuarter : MV yX10_isQuarter := ⟨qw_559, qw_560⟩
theorem mk_X10_isSheet : MK yX10_isSheet cX10_isSheet 2 (some .boolean) 2 := ⟨qw_1084, qw_5, by decide +kernel⟩
theorem ms_X10_isSheet : Cond.static yX10_isSheet ∈ wsL_law := qw_1083
theorem mk_X10_isSide : MK yX10_isSide cX10_isSide 1 (some .boolean) 1 := ⟨qw_556, qw_5, by decide +kernel⟩
theorem ms_X10_isSide : Cond.static yX10_isSide ∈ wsL_law := qw_555
theorem mk_X10_isSister : MK yX10_isSister cX10_isSister 2 (some .boolean) 1 := ⟨qw_497, qw_5, by decide +kernel⟩
theorem mv_X10_isSister : MV yX10_isSister := ⟨qw_495, qw_496⟩
theorem mk_X10_isWatch : MK yX10_isWatch cX10_isWatch 2 (some .boolean) 1 := ⟨qw_591, qw_5, by decide +kernel⟩
theorem mv_X10_isWatch : MV yX10_isWatch := ⟨qw_589, qw_590⟩
theorem mk_X10_keepDraft : MK yX10_keepDraft cX10_keepDraft 4 none 0 := ⟨qw_168, qw_5, by decide +kernel⟩
theorem mv_X10_keepDraft : MV yX10_keepDraft := ⟨qw_166, qw_167⟩
theorem mk_X10_kindNow : MK yX10_kindNow cX10_kindNow 1 (some .int) 0 := ⟨qw_437, qw_5, by decide +kernel⟩
theorem mv_X10_kindNow : MV yX10_kindNow := ⟨qw_435, qw_436⟩
theorem mk_X10_lacksThen : MK yX10_lacksThen cX10_lacksThen 8 (some .int) 2 := ⟨qw_847, qw_5, by decide +kernel⟩
theorem mv_X10_lacksThen : MV yX10_lacksThen := ⟨qw_845, qw_846⟩
theorem mk_X10_lineNow : MK yX10_lineNow cX10_lineNow 1 (some .int) 0 := ⟨qw_417, qw_5, by decide +kernel⟩
theorem mv_X10_lineNow : MV yX10_lineNow := ⟨qw_415, qw_416⟩
theorem mk_X10_look : MK yX10_look cX10_look 2 (some .int) 1 := ⟨qw_405, qw_5, by decide +kernel⟩
theorem mv_X10_look : MV yX10_look := ⟨qw_403, qw_404⟩
theorem mk_X10_looked : MK yX10_looked cX10_looked 3 (some .int) 2 := ⟨qw_445, qw_5, by decide +kernel⟩
theorem mv_X10_looked : MV yX10_looked := ⟨qw_443, qw_444⟩
theorem mk_X10_lowest : MK yX10_lowest cX10_lowest 5 (some .long) 2 := ⟨qw_992, qw_5, by decide +kernel⟩
theorem ms_X10_lowest : Cond.static yX10_lowest ∈ wsL_law := qw_991
theorem mk_X10_missedBy : MK yX10_missedBy cX10_missedBy 5 (some .int) 2 := ⟨qw_687, qw_5, by decide +kernel⟩
theorem mv_X10_missedBy : MV yX10_missedBy := ⟨qw_685, qw_686⟩
theorem mk_X10_missedIn : MK yX10_missedIn cX10_missedIn 2 (some .int) 1 := ⟨qw_790, qw_5, by decide +kernel⟩
theorem mv_X10_missedIn : MV yX10_missedIn := ⟨qw_788, qw_789⟩
theorem mk_X10_missedOver : MK yX10_missedOver cX10_missedOver 12 (some .long) 2 := ⟨qw_989, qw_5, by decide +kernel⟩
theorem mv_X10_missedOver : MV yX10_missedOver := ⟨qw_987, qw_988⟩
theorem mk_X10_mostTwo : MK yX10_mostTwo cX10_mostTwo 3 (some .int) 0 := ⟨qw_916, qw_5, by decide +kernel⟩
theorem mv_X10_mostTwo : MV yX10_mostTwo := ⟨qw_914, qw_915⟩
theorem mk_X10_neededAt : MK yX10_neededAt cX10_neededAt 3 (some .int) 2 := ⟨qw_565, qw_5, by decide +kernel⟩
theorem mv_X10_neededAt : MV yX10_neededAt := ⟨qw_563, qw_564⟩
theorem mk_X10_needs : MK yX10_needs cX10_needs 3 none 2 := ⟨qw_409, qw_5, by decide +kernel⟩
theorem mv_X10_needs : MV yX10_needs := ⟨qw_407, qw_408⟩
theorem mk_X10_next : MK yX10_next cX10_next 2 none 0 := ⟨qw_395, qw_5, by decide +kernel⟩
theorem mv_X10_next : MV yX10_next := ⟨qw_393, qw_394⟩
theorem mk_X10_openIn : MK yX10_openIn cX10_openIn 2 (some .int) 1 := ⟨qw_774, qw_5, by decide +kernel⟩
theorem mv_X10_openIn : MV yX10_openIn := ⟨qw_772, qw_773⟩
theorem mk_X10_power : MK yX10_power cX10_power 4 (some .int) 2 := ⟨qw_174, qw_5, by decide +kernel⟩
theorem ms_X10_power : Cond.static yX10_power ∈ wsL_law := qw_173
theorem mk_X10_readLine : MK yX10_readLine cX10_readLine 2 none 0 := ⟨qw_413, qw_5, by decide +kernel⟩
theorem mv_X10_readLine : MV yX10_readLine := ⟨qw_411, qw_412⟩
theorem mk_X10_readLineOf : MK yX10_readLineOf cX10_readLineOf 4 none 1 := ⟨qw_429, qw_5, by decide +kernel⟩
theorem mv_X10_readLineOf : MV yX10_readLineOf := ⟨qw_427, qw_428⟩
theorem mk_X10_readNew : MK yX10_readNew cX10_readNew 4 (some .int) 2 := ⟨qw_449, qw_5, by decide +kernel⟩
theorem mv_X10_readNew : MV yX10_readNew := ⟨qw_447, qw_448⟩
theorem mk_X10_readNumber : MK yX10_readNumber cX10_readNumber 4 (some .int) 2 := ⟨qw_441, qw_5, by decide +kernel⟩
theorem mv_X10_readNumber : MV yX10_readNumber := ⟨qw_439, qw_440⟩
theorem mk_X10_readSister : MK yX10_readSister cX10_readSister 2 none 0 := ⟨qw_433, qw_5, by decide +kernel⟩
theorem mv_X10_readSister : MV yX10_readSister := ⟨qw_431, qw_432⟩
theorem mk_X10_rowAt : MK yX10_rowAt cX10_rowAt 6 (some .int) 2 := ⟨qw_855, qw_5, by decide +kernel⟩
theorem mv_X10_rowAt : MV yX10_rowAt := ⟨qw_853, qw_854⟩
theorem mk_X10_sawQuarter : MK yX10_sawQuarter cX10_sawQuarter 2 none 1 := ⟨qw_453, qw_5, by decide +kernel⟩
theorem mv_X10_sawQuarter : MV yX10_sawQuarter := ⟨qw_451, qw_452⟩
theorem mk_X10_seenBy : MK yX10_seenBy cX10_seenBy 3 (some .int) 1 := ⟨qw_536, qw_5, by decide +kernel⟩
theorem mv_X10_seenBy : MV yX10_seenBy := ⟨qw_534, qw_535⟩
theorem mk_X10_shutBy : MK yX10_shutBy cX10_shutBy 5 (some .int) 1 := ⟨qw_650, qw_5, by decide +kernel⟩
theorem mv_X10_shutBy : MV yX10_shutBy := ⟨qw_648, qw_649⟩
theorem mk_X10_shutNow : MK yX10_shutNow cX10_shutNow 4 (some .int) 1 := ⟨qw_757, qw_5, by decide +kernel⟩
theorem mv_X10_shutNow : MV yX10_shutNow := ⟨qw_755, qw_756⟩
theorem mk_X10_tell : MK yX10_tell cX10_tell 4 (some .int) 2 := ⟨qw_587, qw_5, by decide +kernel⟩
theorem mv_X10_tell : MV yX10_tell := ⟨qw_585, qw_586⟩
theorem mk_X10_tiredThen : MK yX10_tiredThen cX10_tiredThen 4 (some .int) 2 := ⟨qw_761, qw_5, by decide +kernel⟩
theorem mv_X10_tiredThen : MV yX10_tiredThen := ⟨qw_759, qw_760⟩
theorem mk_X1_become : MK yX1_become cX1_become 2 none 1 := ⟨qw_374, qw_15, by decide +kernel⟩
theorem mv_X1_become : MV yX1_become := ⟨qw_372, qw_373⟩
theorem mk_X1_empty : MK yX1_empty cX1_empty 1 none 0 := ⟨qw_221, qw_15, by decide +kernel⟩
theorem mv_X1_empty : MV yX1_empty := ⟨qw_219, qw_220⟩
theorem mk_X1_everybody : MK yX1_everybody cX1_everybody 1 (some .int) 0 := ⟨qw_515, qw_15, by decide +kernel⟩
theorem mv_X1_everybody : MV yX1_everybody := ⟨qw_513, qw_514⟩
theorem mk_X1_hasEye : MK yX1_hasEye cX1_hasEye 2 (some .boolean) 1 := ⟨qw_507, qw_15, by decide +kernel⟩
theorem mv_X1_hasEye : MV yX1_hasEye := ⟨qw_505, qw_506⟩
theorem mk_X1_hasQuarter : MK yX1_hasQuarter cX1_hasQuarter 2 (some .boolean) 1 := ⟨qw_549, qw_15, by decide +kernel⟩
theorem mv_X1_hasQuarter : MV yX1_hasQuarter := ⟨qw_547, qw_548⟩
theorem mk_X1_hasSister : MK yX1_hasSister cX1_hasSister 2 (some .boolean) 1 := ⟨qw_486, qw_15, by decide +kernel⟩
theorem mv_X1_hasSister : MV yX1_hasSister := ⟨qw_484, qw_485⟩
theorem mk_X1_hasWatch : MK yX1_hasWatch cX1_hasWatch 2 (some .boolean) 1 := ⟨qw_264, qw_15, by decide +kernel⟩
theorem mv_X1_hasWatch : MV yX1_hasWatch := ⟨qw_262, qw_263⟩
theorem mk_X1_isGlassEye : MK yX1_isGlassEye cX1_isGlassEye 2 (some .boolean) 1 := ⟨qw_344, qw_15, by decide +kernel⟩
theorem mv_X1_isGlassEye : MV yX1_isGlassEye := ⟨qw_342, qw_343⟩
theorem mk_X1_watches : MK yX1_watches cX1_watches 1 (some .int) 0 := ⟨qw_268, qw_15, by decide +kernel⟩
theorem mv_X1_watches : MV yX1_watches := ⟨qw_266, qw_267⟩
theorem mk_X2_beginQuarter : MK yX2_beginQuarter cX2_beginQuarter 4 none 2 := ⟨qw_731, qw_36, by decide +kernel⟩
theorem mv_X2_beginQuarter : MV yX2_beginQuarter := ⟨qw_729, qw_730⟩
theorem mk_X2_pass : MK yX2_pass cX2_pass 4 none 1 := ⟨qw_736, qw_36, by decide +kernel⟩
theorem mv_X2_pass : MV yX2_pass := ⟨qw_734, qw_735⟩
theorem mk_X2_reach : MK yX2_reach cX2_reach 6 none 4 := ⟨qw_724, qw_36, by decide +kernel⟩
theorem mv_X2_reach : MV yX2_reach := ⟨qw_722, qw_723⟩
theorem mk_X3_codeBehind : MK yX3_codeBehind cX3_codeBehind 5 (some .int) 2 := ⟨qw_895, qw_40, by decide +kernel⟩
theorem mv_X3_codeBehind : MV yX3_codeBehind := ⟨qw_893, qw_894⟩
theorem mk_X3_find : MK yX3_find cX3_find 5 (some .boolean) 1 := ⟨qw_885, qw_40, by decide +kernel⟩
theorem mv_X3_find : MV yX3_find := ⟨qw_883, qw_884⟩
theorem mk_X3_greatest : MK yX3_greatest cX3_greatest 3 (some .int) 1 := ⟨qw_881, qw_40, by decide +kernel⟩
theorem mv_X3_greatest : MV yX3_greatest := ⟨qw_879, qw_880⟩
theorem mk_X3_hasTime : MK yX3_hasTime cX3_hasTime 6 (some .boolean) 2 := ⟨qw_903, qw_40, by decide +kernel⟩
theorem mv_X3_hasTime : MV yX3_hasTime := ⟨qw_901, qw_902⟩
theorem mk_X3_judge : MK yX3_judge cX3_judge 7 none 3 := ⟨qw_871, qw_40, by decide +kernel⟩
theorem mv_X3_judge : MV yX3_judge := ⟨qw_869, qw_870⟩
theorem mk_X3_lack : MK yX3_lack cX3_lack 3 (some .int) 2 := ⟨qw_899, qw_40, by decide +kernel⟩
theorem mv_X3_lack : MV yX3_lack := ⟨qw_897, qw_898⟩
theorem mk_X3_prepare : MK yX3_prepare cX3_prepare 6 none 3 := ⟨qw_864, qw_40, by decide +kernel⟩
theorem mv_X3_prepare : MV yX3_prepare := ⟨qw_862, qw_863⟩
theorem mk_X3_reach : MK yX3_reach cX3_reach 6 (some .boolean) 3 := ⟨qw_891, qw_40, by decide +kernel⟩
theorem ms_X3_reach : Cond.static yX3_reach ∈ wsL_law := qw_890
theorem mk_X4_become : MK yX4_become cX4_become 2 none 1 := ⟨qw_382, qw_19, by decide +kernel⟩
theorem mv_X4_become : MV yX4_become := ⟨qw_380, qw_381⟩
theorem mk_X4_empty : MK yX4_empty cX4_empty 1 none 0 := ⟨qw_229, qw_19, by decide +kernel⟩
theorem mv_X4_empty : MV yX4_empty := ⟨qw_227, qw_228⟩
theorem mk_X4_storms : MK yX4_storms cX4_storms 3 (some .int) 0 := ⟨qw_1141, qw_19, by decide +kernel⟩
theorem mv_X4_storms : MV yX4_storms := ⟨qw_1139, qw_1140⟩
theorem mk_X5_agrees : MK yX5_agrees cX5_agrees 3 (some .boolean) 0 := ⟨qw_256, qw_28, by decide +kernel⟩
theorem mv_X5_agrees : MV yX5_agrees := ⟨qw_254, qw_255⟩
theorem mk_X5_append : MK yX5_append cX5_append 4 (some .int) 1 := ⟨qw_182, qw_28, by decide +kernel⟩
theorem mv_X5_append : MV yX5_append := ⟨qw_180, qw_181⟩
theorem mk_X5_bedLine : MK yX5_bedLine cX5_bedLine 2 (some .boolean) 0 := ⟨qw_369, qw_28, by decide +kernel⟩
theorem mv_X5_bedLine : MV yX5_bedLine := ⟨qw_367, qw_368⟩
theorem mk_X5_begin : MK yX5_begin cX5_begin 1 none 0 := ⟨qw_217, qw_28, by decide +kernel⟩
theorem mv_X5_begin : MV yX5_begin := ⟨qw_215, qw_216⟩
theorem mk_X5_figures : MK yX5_figures cX5_figures 1 (some .boolean) 0 := ⟨qw_248, qw_28, by decide +kernel⟩
theorem mv_X5_figures : MV yX5_figures := ⟨qw_246, qw_247⟩
theorem mk_X5_isFigure : MK yX5_isFigure cX5_isFigure 1 (some .boolean) 1 := ⟨qw_244, qw_28, by decide +kernel⟩
theorem ms_X5_isFigure : Cond.static yX5_isFigure ∈ wsL_law := qw_243
theorem mk_X5_isLetter : MK yX5_isLetter cX5_isLetter 1 (some .boolean) 1 := ⟨qw_237, qw_28, by decide +kernel⟩
theorem ms_X5_isLetter : Cond.static yX5_isLetter ∈ wsL_law := qw_236
theorem mk_X5_isName : MK yX5_isName cX5_isName 3 (some .boolean) 1 := ⟨qw_276, qw_28, by decide +kernel⟩
theorem mv_X5_isName : MV yX5_isName := ⟨qw_274, qw_275⟩
theorem mk_X5_kindName : MK yX5_kindName cX5_kindName 1 (some .boolean) 0 := ⟨qw_336, qw_28, by decide +kernel⟩
theorem mv_X5_kindName : MV yX5_kindName := ⟨qw_334, qw_335⟩
theorem mk_X5_letters : MK yX5_letters cX5_letters 1 none 0 := ⟨qw_241, qw_28, by decide +kernel⟩
theorem mv_X5_letters : MV yX5_letters := ⟨qw_239, qw_240⟩
theorem mk_X5_line : MK yX5_line cX5_line 1 (some .boolean) 0 := ⟨qw_272, qw_28, by decide +kernel⟩
theorem mv_X5_line : MV yX5_line := ⟨qw_270, qw_271⟩
theorem mk_X5_needLine : MK yX5_needLine cX5_needLine 2 (some .boolean) 0 := ⟨qw_356, qw_28, by decide +kernel⟩
theorem mv_X5_needLine : MV yX5_needLine := ⟨qw_354, qw_355⟩
theorem mk_X5_next : MK yX5_next cX5_next 1 (some .boolean) 0 := ⟨qw_234, qw_28, by decide +kernel⟩
theorem mv_X5_next : MV yX5_next := ⟨qw_232, qw_233⟩
theorem mk_X5_number : MK yX5_number cX5_number 3 (some .boolean) 2 := ⟨qw_340, qw_28, by decide +kernel⟩
theorem mv_X5_number : MV yX5_number := ⟨qw_338, qw_339⟩
theorem mk_X5_quartersLine : MK yX5_quartersLine cX5_quartersLine 1 (some .boolean) 0 := ⟨qw_352, qw_28, by decide +kernel⟩
theorem mv_X5_quartersLine : MV yX5_quartersLine := ⟨qw_350, qw_351⟩
theorem mk_X5_readAll : MK yX5_readAll cX5_readAll 2 (some .boolean) 0 := ⟨qw_213, qw_28, by decide +kernel⟩
theorem mv_X5_readAll : MV yX5_readAll := ⟨qw_211, qw_212⟩
theorem mk_X5_refuse : MK yX5_refuse cX5_refuse 3 (some .boolean) 2 := ⟨qw_252, qw_28, by decide +kernel⟩
theorem mv_X5_refuse : MV yX5_refuse := ⟨qw_250, qw_251⟩
theorem mk_X5_sign : MK yX5_sign cX5_sign 1 (some .boolean) 0 := ⟨qw_348, qw_28, by decide +kernel⟩
theorem mv_X5_sign : MV yX5_sign := ⟨qw_346, qw_347⟩
theorem mk_X5_sisterLine : MK yX5_sisterLine cX5_sisterLine 3 (some .boolean) 0 := ⟨qw_329, qw_28, by decide +kernel⟩
theorem mv_X5_sisterLine : MV yX5_sisterLine := ⟨qw_327, qw_328⟩
theorem mk_X5_stormLine : MK yX5_stormLine cX5_stormLine 2 (some .boolean) 0 := ⟨qw_361, qw_28, by decide +kernel⟩
theorem mv_X5_stormLine : MV yX5_stormLine := ⟨qw_359, qw_360⟩
theorem mk_X5_watchLine : MK yX5_watchLine cX5_watchLine 2 (some .boolean) 0 := ⟨qw_365, qw_28, by decide +kernel⟩
theorem mv_X5_watchLine : MV yX5_watchLine := ⟨qw_363, qw_364⟩
theorem mk_X6_begin : MK yX6_begin cX6_begin 3 none 2 := ⟨qw_1076, qw_24, by decide +kernel⟩
theorem mv_X6_begin : MV yX6_begin := ⟨qw_1074, qw_1075⟩
theorem mk_X6_faultAt : MK yX6_faultAt cX6_faultAt 2 (some .int) 1 := ⟨qw_1093, qw_24, by decide +kernel⟩
theorem mv_X6_faultAt : MV yX6_faultAt := ⟨qw_1091, qw_1092⟩
theorem mk_X6_faultOfPair : MK yX6_faultOfPair cX6_faultOfPair 4 (some .int) 3 := ⟨qw_1115, qw_24, by decide +kernel⟩
theorem mv_X6_faultOfPair : MV yX6_faultOfPair := ⟨qw_1113, qw_1114⟩
theorem mk_X6_isNothing : MK yX6_isNothing cX6_isNothing 1 (some .boolean) 0 := ⟨qw_1097, qw_24, by decide +kernel⟩
theorem mv_X6_isNothing : MV yX6_isNothing := ⟨qw_1095, qw_1096⟩
theorem mk_X6_put : MK yX6_put cX6_put 3 none 2 := ⟨qw_1101, qw_24, by decide +kernel⟩
theorem mv_X6_put : MV yX6_put := ⟨qw_1099, qw_1100⟩
theorem mk_X7_countOf : MK yX7_countOf cX7_countOf 5 (some .int) 2 := ⟨qw_642, qw_32, by decide +kernel⟩
theorem mv_X7_countOf : MV yX7_countOf := ⟨qw_640, qw_641⟩
theorem mk_X7_lacking : MK yX7_lacking cX7_lacking 7 (some .int) 3 := ⟨qw_674, qw_32, by decide +kernel⟩
theorem mv_X7_lacking : MV yX7_lacking := ⟨qw_672, qw_673⟩
theorem mk_X7_look : MK yX7_look cX7_look 7 none 3 := ⟨qw_519, qw_32, by decide +kernel⟩
theorem mv_X7_look : MV yX7_look := ⟨qw_517, qw_518⟩
theorem mk_X7_openBy : MK yX7_openBy cX7_openBy 2 (some .int) 1 := ⟨qw_638, qw_32, by decide +kernel⟩
theorem mv_X7_openBy : MV yX7_openBy := ⟨qw_636, qw_637⟩
theorem mk_X7_turned : MK yX7_turned cX7_turned 2 (some .int) 2 := ⟨qw_524, qw_32, by decide +kernel⟩
theorem ms_X7_turned : Cond.static yX7_turned ∈ wsL_law := qw_523
theorem mk_X8_commonDivisor : MK yX8_commonDivisor cX8_commonDivisor 11 (some .long) 2 := ⟨qw_980, qw_48, by decide +kernel⟩
theorem ms_X8_commonDivisor : Cond.static yX8_commonDivisor ∈ wsL_law := qw_979
theorem mk_X8_fraction : MK yX8_fraction cX8_fraction 6 (some .long) 2 := ⟨qw_977, qw_48, by decide +kernel⟩
theorem mv_X8_fraction : MV yX8_fraction := ⟨qw_975, qw_976⟩
theorem mk_X8_waysOf : MK yX8_waysOf cX8_waysOf 5 (some .long) 2 := ⟨qw_971, qw_48, by decide +kernel⟩
theorem ms_X8_waysOf : Cond.static yX8_waysOf ∈ wsL_law := qw_970
theorem mk_X8_weigh : MK yX8_weigh cX8_weigh 10 none 4 := ⟨qw_966, qw_48, by decide +kernel⟩
theorem mv_X8_weigh : MV yX8_weigh := ⟨qw_964, qw_965⟩
theorem mk_X9_canTell : MK yX9_canTell cX9_canTell 3 (some .boolean) 2 := ⟨qw_582, qw_2, by decide +kernel⟩
theorem mv_X9_canTell : MV yX9_canTell := ⟨qw_580, qw_581⟩
theorem mk_X9_isAsHeard : MK yX9_isAsHeard cX9_isAsHeard 7 (some .boolean) 2 := ⟨qw_1031, qw_2, by decide +kernel⟩
theorem mv_X9_isAsHeard : MV yX9_isAsHeard := ⟨qw_1029, qw_1030⟩
theorem mk_X9_isEither : MK yX9_isEither cX9_isEither 1 (some .boolean) 1 := ⟨qw_489, qw_2, by decide +kernel⟩
theorem ms_X9_isEither : Cond.static yX9_isEither ∈ wsL_law := qw_488
theorem mk_X9_isImage : MK yX9_isImage cX9_isImage 1 (some .boolean) 1 := ⟨qw_1046, qw_2, by decide +kernel⟩
theorem ms_X9_isImage : Cond.static yX9_isImage ∈ wsL_law := qw_1045
theorem mk_X9_isLane : MK yX9_isLane cX9_isLane 1 (some .boolean) 1 := ⟨qw_1072, qw_2, by decide +kernel⟩
theorem ms_X9_isLane : Cond.static yX9_isLane ∈ wsL_law := qw_1071
theorem mk_X9_isLawful : MK yX9_isLawful cX9_isLawful 3 (some .boolean) 2 := ⟨qw_670, qw_2, by decide +kernel⟩
theorem mv_X9_isLawful : MV yX9_isLawful := ⟨qw_668, qw_669⟩
theorem mk_X9_isSheet : MK yX9_isSheet cX9_isSheet 1 (some .boolean) 1 := ⟨qw_1069, qw_2, by decide +kernel⟩
theorem ms_X9_isSheet : Cond.static yX9_isSheet ∈ wsL_law := qw_1068
theorem mk_X9_isSide : MK yX9_isSide cX9_isSide 1 (some .boolean) 1 := ⟨qw_545, qw_2, by decide +kernel⟩
theorem ms_X9_isSide : Cond.static yX9_isSide ∈ wsL_law := qw_544
theorem mk_X9_layBeds : MK yX9_layBeds cX9_layBeds 3 none 1 := ⟨qw_932, qw_2, by decide +kernel⟩
theorem mv_X9_layBeds : MV yX9_layBeds := ⟨qw_930, qw_931⟩
theorem mk_X9_look : MK yX9_look cX9_look 1 (some (.object "ThreeAwake$Sight")) 0 := ⟨qw_511, qw_2, by decide +kernel⟩
theorem mv_X9_look : MV yX9_look := ⟨qw_509, qw_510⟩
theorem mk_X9_missedIn : MK yX9_missedIn cX9_missedIn 2 (some .int) 1 := ⟨qw_782, qw_2, by decide +kernel⟩
theorem mv_X9_missedIn : MV yX9_missedIn := ⟨qw_780, qw_781⟩
theorem mk_X9_opened : MK yX9_opened cX9_opened 5 (some .int) 2 := ⟨qw_943, qw_2, by decide +kernel⟩
theorem ms_X9_opened : Cond.static yX9_opened ∈ wsL_law := qw_942
theorem mk_X9_weighSleep : MK yX9_weighSleep cX9_weighSleep 2 none 1 := ⟨qw_962, qw_2, by decide +kernel⟩
theorem mv_X9_weighSleep : MV yX9_weighSleep := ⟨qw_960, qw_961⟩
theorem wa_ldc_w {p : Program} {l : Launch} {e : Env} {R : Room} {s : State} {m : MethodId} {args : Array Value} {below : List Frame} {meth : Method} {c : Code} {cc : ByteArray} {nL : Nat} {own : String} {ret : Option FieldType} {D : va_G} {cy : Nat → ClassId} {ad : Nat → Nat} {A : Nat → Prop} {kc ks : Nat} {Z : State → Prop} {μ : Mem} {ls : List (Nat × Value)} {pc : Nat} {rest : List Value} (C : CX p s m args meth c cc nL own ret D cy ad A) {index : Nat} {v : Int32} (hw : Jvm.Cond.constant own index v ∈ wsL_law) (hdg : decode cc pc = .ok (.ldc_w index, 3)) (k : WA p l e R s m args below meth c nL D cy ad A kc ks Z μ ls (pc + 3) (.int v :: rest)) : WA p l e R s m args below meth c nL D cy ad A kc ks Z μ ls pc rest := fun H locs la hP hS hl => lv_ldcw C.1 C.2.1 C.2.2.2.1 (C.2.2.2.2.1 _ hw) hdg (k H locs la hP hS hl)
