/** Promises 1 to 6 and 19, and what the document's term 1 says of the text and its contexts. */
final class TextBoundaries extends Boundaries {
    private static Subject full() {
        return filled(MOST_SIGNS, p -> p % 16);
    }

    private static void promise01HasNoSigns() {
        Subject x = new Subject();
        due("length", x.length(), 0);
        due("wipe", x.wipe(), 0);
        for (int k = 0; k < 4; k++) {
            due("order(" + k + ")", x.order(k), 0);
            due("context of order " + k, x.context(0, 0), BAD);
            due("count of order " + k, x.count(0, 0), BAD);
            due("all of order " + k, x.count(0, -1), BAD);
        }
    }

    private static void promise01HasNoWeights() {
        Subject x = new Subject();
        for (int s = 0; s < 16; s++) {
            due("share(" + s + ")", x.share(s), NO_QUOTIENT);
            due("weight of " + s, x.weight(s, 0), 0);
        }
    }

    private static void promise01HasTheOrder0() {
        Subject x = new Subject();
        x.sign(5);
        due("the only context", x.count(0, -1), 1);
        due("a second context", x.count(1, -1), BAD);
        due("a sign of it", x.context(0, 0), BAD);
    }

    private static void promise01HasNothingToTell() {
        Subject x = new Subject();
        for (int kind = 0; kind < 3; kind++) {
            for (int side = 0; side < 2; side++) {
                due("cost of kind " + kind, x.cost(kind, 0, side), 0);
                due("cost of kind " + kind, x.cost(kind, 24, side), 0);
            }
            due("digits of kind " + kind, x.digits(kind, 0), 0);
            due("grammar(" + kind + ")", x.grammar(kind), 0);
        }
        for (int kind = 0; kind < 2; kind++) {
            for (int s = 0; s < 16; s++) {
                due("width of " + s, x.width(kind, s), 0);
            }
            due("bits(" + kind + ")", x.bits(kind), 0);
            due("pieces(" + kind + ")", x.pieces(kind), 0);
            due("piece 0 of kind " + kind, x.piece(kind, 0, 0), BAD);
            due("rule(16, " + kind + ")", x.rule(16, kind), BAD);
        }
        due("symbol(0)", x.symbol(0), NO_INDEX);
    }

    private static void promise01SharesNothingWithAnother() {
        Subject x = ordinary();
        due("a new one beside it", answersOf(new Subject()), answersOf(new Subject()));
        Subject y = new Subject();
        due("length of the new one", y.length(), 0);
        due("weight of the new one", y.weight(3, 9), 0);
        y.sign(1);
        y.order(3);
        y.wipe();
        due("the older one", answersOf(x), answersOf(ordinary()));
    }

    private static void promise02TheLeastSignIs0() {
        Subject x = new Subject();
        due("sign(-1)", x.sign(-1), BAD);
        due("sign(0)", x.sign(0), 1);
        due("it is there", x.count(0, 0), 1);
    }

    private static void promise02TheGreatestSignIs15() {
        Subject x = new Subject();
        due("sign(16)", x.sign(16), BAD);
        due("sign(15)", x.sign(15), 1);
        due("it is there", x.count(0, 15), 1);
    }

    private static void promise02EachOf16SignsCanCome() {
        Subject x = new Subject();
        for (int s = 0; s < 16; s++) {
            due("sign(" + s + ")", x.sign(s), s + 1);
        }
        for (int s = 0; s < 16; s++) {
            due("count of " + s, x.count(0, s), 1);
            due("symbol " + s, x.symbol(s), s);
        }
    }

    private static void promise02NumbersFarOutAreBad() {
        Subject x = of(4);
        dueBadOfWild("sign", x::sign);
        due("length", x.length(), 1);
    }

    private static void promise02Holds400SignsAndNoMore() {
        Subject x = new Subject();
        for (int p = 0; p < MOST_SIGNS; p++) {
            due("sign at place " + p, x.sign(p * 7 % 16), p + 1);
        }
        due("sign 401", x.sign(0), FULL);
        due("sign 401 once more", x.sign(15), FULL);
        due("length", x.length(), 400);
    }

    private static void promise02OfAFullTextAWrongSignIsBad() {
        Subject x = full();
        due("sign(16)", x.sign(16), BAD);
        due("sign(-1)", x.sign(-1), BAD);
        dueBadOfWild("sign", x::sign);
    }

    private static void promise02BadChangesNothing() {
        dueUnchanged("wrong signs", Boundaries::ordinary, x -> {
            x.sign(-1);
            x.sign(16);
            x.sign(Integer.MIN_VALUE);
            x.sign(Integer.MAX_VALUE);
        });
    }

    private static void promise02FullChangesNothing() {
        Subject x = full();
        x.sign(3);
        x.sign(0);
        due("answers behind FULL", answersOf(x), answersOf(full()));
    }

    private static void promise02HasRoomAgainBehindAWipe() {
        Subject x = full();
        x.sign(1);
        x.wipe();
        due("sign", x.sign(9), 1);
        due("sign", x.sign(9), 2);
        due("its count", x.count(0, 9), 2);
        due("count of what was there", x.count(0, 1), 0);
    }

    private static void promise03OfAnEmptyTextAnswers0() {
        Subject x = new Subject();
        due("wipe", x.wipe(), 0);
        due("wipe again", x.wipe(), 0);
        x.sign(2);
        due("wipe of one sign", x.wipe(), 1);
        due("wipe behind it", x.wipe(), 0);
    }

    private static void promise03OfAFullTextAnswers400() {
        Subject x = full();
        x.sign(0);
        due("wipe", x.wipe(), 400);
        due("length", x.length(), 0);
    }

    private static void promise03LeavesNothingOfTheText() {
        Subject x = of(1, 2, 1, 2, 1, 1, 1, 1);
        answersOf(x);
        x.wipe();
        due("answers", answersOf(x), answersOf(new Subject()));
        x.sign(2);
        x.sign(1);
        due("answers of a new text", answersOf(x), answersOf(of(2, 1)));
    }

    /** Whatever text was there and was asked about, nothing of it shows in the answers. */
    private static void promise03ANewTextIsToldAsByANewObject() {
        int[][] texts = {
            {0}, {1}, {0, 0}, {0, 1}, {1, 0}, {2, 1, 1}, {0, 0, 0}, {5, 5, 5, 5}, {6, 5, 5, 5, 5, 5},
            {5, 5, 5, 5, 5, 5}, {0, 0, 0, 1, 1, 1, 2, 2, 2}, {1, 2, 1, 2, 3, 1, 2, 3, 3, 1},
            {0, 1, 2, 3, 4, 5, 6, 7, 8, 9, 10, 11, 12, 13, 14, 15}, {9, 8, 9, 8, 8, 8, 9, 8, 9, 9, 9, 9},
        };
        for (int[] before : texts) {
            for (int[] behind : texts) {
                Subject x = of(before);
                allAnswersOf(x);
                x.wipe();
                for (int s : behind) {
                    x.sign(s);
                }
                due("answers of a new text", allAnswersOf(x), allAnswersOf(of(behind)));
            }
        }
    }

    private static void promise03LeavesTheOrder() {
        Subject x = of(1, 2, 3);
        x.order(2);
        x.wipe();
        for (int s = 4; s < 8; s++) {
            x.sign(s);
        }
        due("first sign of context 1", x.context(1, 0), 5);
        due("second sign of context 1", x.context(1, 1), 6);
        due("third sign of context 1", x.context(1, 2), BAD);
        due("context 2", x.context(2, 0), BAD);
    }

    private static void promise03LeavesTheWeights() {
        Subject x = of(1);
        x.weight(1, 1000);
        x.weight(2, 3);
        x.wipe();
        due("weight of 1", x.weight(1, 0), 1000);
        due("weight of 2", x.weight(2, 0), 3);
    }

    private static void promise04TheLeastOrderIs0() {
        Subject x = of(1, 2, 3);
        due("order(-1)", x.order(-1), BAD);
        due("order(0)", x.order(0), 1);
    }

    private static void promise04TheGreatestOrderIs3() {
        Subject x = of(1, 2, 3, 4, 5);
        due("order(4)", x.order(4), BAD);
        due("order(3)", x.order(3), 2);
    }

    private static void promise04NumbersFarOutAreBad() {
        Subject x = of(1, 2, 3);
        dueBadOfWild("order", x::order);
    }

    private static void promise04BadChangesNothing() {
        dueUnchanged("wrong orders", Boundaries::ordinary, x -> {
            x.order(-1);
            x.order(4);
            x.order(Integer.MIN_VALUE);
            x.order(Integer.MAX_VALUE);
        });
    }

    private static void promise04NoPlaceHasKSignsBeforeItInATextOfK() {
        for (int k = 0; k < 4; k++) {
            Subject x = new Subject();
            for (int size = 0; size <= k; size++) {
                due("order(" + k + ") of " + size + " signs", x.order(k), 0);
                due("context 0", x.count(0, -1), BAD);
                x.sign(size);
            }
            due("order(" + k + ") of a sign more", x.order(k), 1);
            due("all of context 0", x.count(0, -1), 1);
            due("the place's sign", x.count(0, k), 1);
        }
    }

    private static void promise04TheLastSignsAreNoContext() {
        Subject x = of(1, 2, 3, 4);
        due("order(1)", x.order(1), 3);
        due("order(2)", x.order(2), 2);
        due("order(3)", x.order(3), 1);
    }

    private static void promise04TheOrder0HasOneContext() {
        Subject x = filled(MOST_SIGNS, p -> p % 16);
        x.order(3);
        due("order(0)", x.order(0), 1);
        due("order(0) again", x.order(0), 1);
        due("all of it", x.count(0, -1), 400);
    }

    private static void promise04ATextOf400SignsHas397ContextsAtMost() {
        int[] signs = withoutRunTwice();
        Subject x = filled(MOST_SIGNS, p -> signs[p]);
        due("order(3)", x.order(3), 397);
        for (int j = 0; j < 3; j++) {
            due("sign " + j + " of the last context", x.context(396, j), signs[396 + j]);
        }
        due("count of the last context", x.count(396, signs[399]), 1);
        due("all of the last context", x.count(396, -1), 1);
        due("context behind the last", x.context(397, 0), BAD);
        due("count behind the last", x.count(397, -1), BAD);
        due("order(0)", x.order(0), 1);
    }

    /** No run of three signs stands twice in it: each next sign is the first that keeps it so. */
    private static int[] withoutRunTwice() {
        int[] signs = new int[MOST_SIGNS];
        boolean[] seen = new boolean[4096];
        for (int p = 2; p < MOST_SIGNS; p++) {
            int before = signs[p - 2] * 256 + signs[p - 1] * 16;
            int s = 15;
            while (seen[before + s]) {
                s--;
            }
            signs[p] = s;
            seen[before + s] = true;
        }
        return signs;
    }

    private static void promise05OfTheOrder0HasNoSign() {
        Subject x = of(1, 2, 1);
        due("context(0, -1)", x.context(0, -1), BAD);
        due("context(0, 0)", x.context(0, 0), BAD);
        due("context(0, 1)", x.context(0, 1), BAD);
    }

    private static void promise05HasTheSigns0ToKLess1() {
        Subject x = of(9, 8, 7, 6);
        int[] signs = {9, 8, 7};
        for (int k = 1; k < 4; k++) {
            x.order(k);
            due("sign -1 of order " + k, x.context(0, -1), BAD);
            for (int j = 0; j < k; j++) {
                due("sign " + j + " of order " + k, x.context(0, j), signs[j]);
            }
            due("sign " + k + " of order " + k, x.context(0, k), BAD);
        }
    }

    private static void promise05HasTheContextsFrom0On() {
        Subject x = of(5, 6, 5, 7, 5);
        x.order(1);
        due("context -1", x.context(-1, 0), BAD);
        due("context 0", x.context(0, 0), 5);
        due("context 1", x.context(1, 0), 6);
        due("context 2", x.context(2, 0), 7);
        due("context 3", x.context(3, 0), BAD);
    }

    private static void promise05NumbersContextsAsTheyComeFirst() {
        Subject x = of(15, 0, 15, 3, 0, 15, 0, 0);
        x.order(2);
        int[][] contexts = {{15, 0}, {0, 15}, {15, 3}, {3, 0}};
        for (int c = 0; c < contexts.length; c++) {
            due("first sign of context " + c, x.context(c, 0), contexts[c][0]);
            due("second sign of context " + c, x.context(c, 1), contexts[c][1]);
        }
        due("context behind the last", x.context(contexts.length, 0), BAD);
    }

    private static void promise05HoldsLeastAndGreatestSigns() {
        Subject x = of(0, 0, 15, 15, 15, 0);
        x.order(3);
        int[][] contexts = {{0, 0, 15}, {0, 15, 15}, {15, 15, 15}};
        for (int c = 0; c < contexts.length; c++) {
            for (int j = 0; j < 3; j++) {
                due("sign " + j + " of context " + c, x.context(c, j), contexts[c][j]);
            }
        }
    }

    private static void promise05NumbersFarOutAreBad() {
        Subject x = of(1, 2, 3, 4);
        x.order(2);
        dueBadOfWild("context", c -> x.context(c, 0));
        dueBadOfWild("sign of a context", j -> x.context(0, j));
        dueBadOfWild("both", n -> x.context(n, n));
    }

    private static void promise05FollowsTheText() {
        Subject x = of(1, 2);
        x.order(1);
        due("context 1 before", x.context(1, 0), BAD);
        x.sign(3);
        due("context 1 behind", x.context(1, 0), 2);
        x.wipe();
        due("context 0 of no text", x.context(0, 0), BAD);
    }

    private static void promise05ChangesNothing() {
        dueUnchanged("contexts", Boundaries::ordinary, x -> {
            x.context(0, 0);
            x.context(99, 0);
            x.context(-1, 0);
            x.context(0, 3);
            x.context(0, -1);
        });
    }

    private static void promise06OfTheSignLess1IsAll() {
        Subject x = of(2, 3, 2, 3, 3);
        due("all", x.count(0, -1), 5);
        x.order(1);
        due("all behind 2", x.count(0, -1), 2);
        due("all behind 3", x.count(1, -1), 2);
        due("all of no context", x.count(2, -1), BAD);
        due("all of context -1", x.count(-1, -1), BAD);
    }

    private static void promise06HasTheSigns0To15() {
        Subject x = of(0, 15, 0, 15, 15);
        due("count(0, -2)", x.count(0, -2), BAD);
        due("count(0, 0)", x.count(0, 0), 2);
        due("count(0, 15)", x.count(0, 15), 3);
        due("count(0, 16)", x.count(0, 16), BAD);
    }

    private static void promise06OfASignThatDoesNotStandThereIs0() {
        Subject x = of(1, 2, 1, 3);
        due("a sign that is nowhere", x.count(0, 4), 0);
        x.order(1);
        due("a sign that stands behind another", x.count(1, 3), 0);
        due("the sign that stands there", x.count(1, 1), 1);
    }

    private static void promise06HasTheContextsFrom0On() {
        Subject x = of(1, 2, 1, 3);
        due("context -1", x.count(-1, 1), BAD);
        due("context 1 of order 0", x.count(1, 1), BAD);
        x.order(1);
        due("context 1 of order 1", x.count(1, 1), 1);
        due("context 2 of order 1", x.count(2, 1), BAD);
    }

    private static void promise06CountsPlacesFromKOn() {
        Subject x = of(4, 4, 4, 4);
        for (int k = 0; k < 4; k++) {
            x.order(k);
            due("count of order " + k, x.count(0, 4), 4 - k);
            due("all of order " + k, x.count(0, -1), 4 - k);
        }
    }

    private static void promise06CountsTo400() {
        Subject x = filled(MOST_SIGNS, p -> 9);
        due("count", x.count(0, 9), 400);
        due("all", x.count(0, -1), 400);
        x.order(3);
        due("count of order 3", x.count(0, 9), 397);
        due("context 1", x.count(1, 9), BAD);
    }

    private static void promise06FollowsTheText() {
        for (int s = 0; s < 16; s++) {
            Subject x = new Subject();
            for (int size = 1; size < 6; size++) {
                x.sign(s);
                due("count of " + s, x.count(0, s), size);
                due("all", x.count(0, -1), size);
                due("count of another", x.count(0, 15 - s), 0);
            }
        }
    }

    private static void promise06FollowsTheOrder() {
        Subject x = of(0, 0, 0, 1);
        for (int round = 0; round < 2; round++) {
            x.order(0);
            due("count of order 0", x.count(0, 0), 3);
            x.order(3);
            due("count of order 3", x.count(0, 1), 1);
            due("count of 0 of order 3", x.count(0, 0), 0);
            x.order(1);
            due("count of order 1", x.count(0, 0), 2);
            due("all of order 1", x.count(0, -1), 3);
        }
    }

    private static void promise06NumbersFarOutAreBad() {
        Subject x = of(1, 2, 3, 4);
        dueBadOfWild("count", c -> x.count(c, 1));
        dueBadOfWild("all", c -> x.count(c, -1));
        dueBadOfWild("sign", s -> x.count(0, s));
        dueBadOfWild("both", n -> x.count(n, n));
    }

    private static void promise06ChangesNothing() {
        dueUnchanged("counts", Boundaries::ordinary, x -> {
            x.count(0, -1);
            x.count(0, 14);
            x.count(99, 0);
            x.count(-1, 0);
            x.count(0, 16);
            x.count(0, -2);
        });
    }

    private static void promise19GoesFrom0To400() {
        Subject x = new Subject();
        due("length of nothing", x.length(), 0);
        x.sign(0);
        due("length of one", x.length(), 1);
        for (int p = 1; p < 399; p++) {
            x.sign(1);
        }
        due("length of 399", x.length(), 399);
        x.sign(2);
        due("length of 400", x.length(), 400);
        x.sign(2);
        due("length behind FULL", x.length(), 400);
        x.wipe();
        due("length behind a wipe", x.length(), 0);
    }

    private static void promise19IsRightAtThe512thCall() {
        Subject x = full();
        x.wipe();
        for (int p = 0; x.callsLeft() > 1; p++) {
            due("sign", x.sign(p % 16), p + 1);
        }
        due("the 512th call", x.length(), 110);
        Subject y = of(1, 2);
        while (y.callsLeft() > 1) {
            due("share", y.share(1), NO_QUOTIENT);
        }
        due("the 512th call behind exceptions", y.length(), 2);
    }

    private static void promise19IsNotMovedByRefusedCalls() {
        Subject x = of(1, 2);
        x.sign(16);
        x.sign(-1);
        x.order(4);
        x.weight(0, 1001);
        x.symbol(7);
        x.share(0);
        due("length", x.length(), 2);
        x.length();
        due("length again", x.length(), 2);
    }
}
