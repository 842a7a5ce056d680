/** Promises 14 and 15, and what the document's term 4 says of FACTORS and PHRASES. */
final class PieceBoundaries extends Boundaries {
    private static final int FACTOR = 0, PHRASE = 1;

    /** All pieces of a kind: place, length and where they come from. */
    private static void duePieces(Subject x, int kind, int[]... want) {
        due("pieces(" + kind + ")", x.pieces(kind), want.length);
        for (int i = 0; i < want.length; i++) {
            for (int what = 0; what < 3; what++) {
                due("piece(" + kind + ", " + i + ", " + what + ")", x.piece(kind, i, what), want[i][what]);
            }
        }
        for (int what = 0; what < 3; what++) {
            due("piece behind the last", x.piece(kind, want.length, what), BAD);
        }
    }

    private static void promise14TheKindsAre0And1() {
        Subject x = of(4, 4, 4, 4);
        due("kind -1", x.pieces(-1), BAD);
        due("kind 0", x.pieces(0), 2);
        due("kind 1", x.pieces(1), 3);
        due("kind 2", x.pieces(2), BAD);
        dueBadOfWild("pieces", x::pieces);
    }

    private static void promise14OfNoTextIs0() {
        Subject x = new Subject();
        due("factors", x.pieces(FACTOR), 0);
        due("phrases", x.pieces(PHRASE), 0);
        due("kind 2", x.pieces(2), BAD);
        x.sign(1);
        due("factors of one sign", x.pieces(FACTOR), 1);
        due("phrases of one sign", x.pieces(PHRASE), 1);
        x.wipe();
        due("factors behind a wipe", x.pieces(FACTOR), 0);
        due("phrases behind a wipe", x.pieces(PHRASE), 0);
    }

    private static void promise14OfAFullText() {
        Subject x = filled(MOST_SIGNS, p -> 6);
        due("factors of one sign 400 times", x.pieces(FACTOR), 2);
        // 1 and 2 and .. and 27 are 378 signs, 22 are left.
        due("phrases of one sign 400 times", x.pieces(PHRASE), 28);
        Subject y = filled(MOST_SIGNS, p -> p % 16);
        due("factors of 16 signs 25 times", y.pieces(FACTOR), 17);
        due("phrases of it", y.pieces(PHRASE), modelOf(MOST_SIGNS, p -> p % 16).pieces(PHRASE));
    }

    private static void promise14FollowsTheText() {
        Subject x = of(4);
        x.pieces(FACTOR);
        x.pieces(PHRASE);
        x.sign(4);
        due("factors", x.pieces(FACTOR), 2);
        due("phrases", x.pieces(PHRASE), 2);
        x.sign(4);
        due("factors of three", x.pieces(FACTOR), 2);
        due("phrases of three", x.pieces(PHRASE), 2);
    }

    private static void promise14ChangesNothing() {
        dueUnchanged("pieces", Boundaries::ordinary, x -> {
            x.pieces(FACTOR);
            x.pieces(PHRASE);
            x.pieces(-1);
            x.pieces(2);
        });
    }

    private static void promise15TheKindsAre0And1() {
        Subject x = of(4, 4);
        for (int what = 0; what < 3; what++) {
            due("kind -1", x.piece(-1, 0, what), BAD);
            due("kind 2", x.piece(2, 0, what), BAD);
        }
        due("kind 0", x.piece(0, 1, 1), 1);
        due("kind 1", x.piece(1, 1, 1), 1);
    }

    private static void promise15TheFirstPieceIs0() {
        Subject x = of(4, 5, 6);
        for (int kind = 0; kind < 2; kind++) {
            for (int what = 0; what < 3; what++) {
                due("piece -1", x.piece(kind, -1, what), BAD);
            }
            due("piece 0's place", x.piece(kind, 0, 0), 0);
            due("piece 0's length", x.piece(kind, 0, 1), 1);
            due("piece 0's source", x.piece(kind, 0, 2), NONE);
        }
    }

    private static void promise15ThereIsNoPieceBehindTheLast() {
        Subject x = of(4, 4, 4, 4, 4);
        for (int kind = 0; kind < 2; kind++) {
            int pieces = x.pieces(kind);
            due("the last piece's place", x.piece(kind, pieces - 1, 0), kind == FACTOR ? 1 : 3);
            for (int what = 0; what < 3; what++) {
                due("piece " + pieces, x.piece(kind, pieces, what), BAD);
            }
        }
    }

    private static void promise15OfNoTextThereIsNoPiece() {
        Subject x = of(4, 4, 4);
        x.piece(FACTOR, 0, 0);
        x.piece(PHRASE, 0, 0);
        x.wipe();
        for (int kind = 0; kind < 2; kind++) {
            for (int what = 0; what < 3; what++) {
                due("piece 0 behind a wipe", x.piece(kind, 0, what), BAD);
                due("piece 0 of a new one", new Subject().piece(kind, 0, what), BAD);
            }
        }
    }

    private static void promise15ThePartsAre0To2() {
        Subject x = of(4, 4, 4);
        for (int kind = 0; kind < 2; kind++) {
            due("what = -1", x.piece(kind, 1, -1), BAD);
            due("what = 0", x.piece(kind, 1, 0), 1);
            due("what = 1", x.piece(kind, 1, 1), 2);
            due("what = 2", x.piece(kind, 1, 2), 0);
            due("what = 3", x.piece(kind, 1, 3), BAD);
        }
    }

    private static void promise15NumbersFarOutAreBad() {
        Subject x = of(1, 2, 1, 2);
        dueBadOfWild("kind", kind -> x.piece(kind, 0, 0));
        dueBadOfWild("factor", i -> x.piece(FACTOR, i, 0));
        dueBadOfWild("phrase", i -> x.piece(PHRASE, i, 2));
        dueBadOfWild("part of a factor", what -> x.piece(FACTOR, 0, what));
        dueBadOfWild("part of a phrase", what -> x.piece(PHRASE, 0, what));
        dueBadOfWild("all", n -> x.piece(n, n, n));
    }

    private static void promise15AFactorMayRunIntoItself() {
        duePieces(of(4, 4), FACTOR, row(0, 1, NONE), row(1, 1, 0));
        duePieces(of(4, 4, 4, 4), FACTOR, row(0, 1, NONE), row(1, 3, 0));
        duePieces(of(1, 2, 1, 2, 1, 2, 1), FACTOR, row(0, 1, NONE), row(1, 1, NONE), row(2, 5, 0));
    }

    private static void promise15AFactorIsTheLongestRun() {
        // From place 4 on 1 3 stands at place 2 too, 1 alone at place 0 already.
        duePieces(of(1, 2, 1, 3, 1, 3), FACTOR, row(0, 1, NONE), row(1, 1, NONE), row(2, 1, 0),
                row(3, 1, NONE), row(4, 2, 2));
    }

    private static void promise15AFactorComesFromTheLeastPlace() {
        // 1 2 stands at places 0 and 2 and 5: the least of them.
        duePieces(of(1, 2, 1, 2, 3, 1, 2, 4), FACTOR, row(0, 1, NONE), row(1, 1, NONE), row(2, 2, 0),
                row(4, 1, NONE), row(5, 2, 0), row(7, 1, NONE));
    }

    private static void promise15AFactorEndsWithTheText() {
        duePieces(of(7, 8, 9, 7, 8), FACTOR, row(0, 1, NONE), row(1, 1, NONE), row(2, 1, NONE), row(3, 2, 0));
        duePieces(of(7, 8, 7), FACTOR, row(0, 1, NONE), row(1, 1, NONE), row(2, 1, 0));
    }

    private static void promise15AFactorOfASignThatStandsAtNoneIsNone() {
        duePieces(of(3), FACTOR, row(0, 1, NONE));
        duePieces(of(1, 1, 2, 1), FACTOR, row(0, 1, NONE), row(1, 1, 0), row(2, 1, NONE), row(3, 1, 0));
        Subject x = filled(16, p -> p);
        for (int i = 0; i < 16; i++) {
            due("place of factor " + i, x.piece(FACTOR, i, 0), i);
            due("length of factor " + i, x.piece(FACTOR, i, 1), 1);
            due("source of factor " + i, x.piece(FACTOR, i, 2), NONE);
        }
    }

    private static void promise15OfAFullTextAFactorHas399Signs() {
        duePieces(filled(MOST_SIGNS, p -> 6), FACTOR, row(0, 1, NONE), row(1, 399, 0));
        duePieces(filled(MOST_SIGNS, p -> p % 2), FACTOR, row(0, 1, NONE), row(1, 1, NONE), row(2, 398, 0));
    }

    private static void promise15APhraseOfOneSignIsNone() {
        duePieces(of(3), PHRASE, row(0, 1, NONE));
        duePieces(of(3, 4, 5), PHRASE, row(0, 1, NONE), row(1, 1, NONE), row(2, 1, NONE));
    }

    private static void promise15APhraseIsTheShortestThatIsNoneBefore() {
        duePieces(of(1, 2, 1, 2, 1, 2, 1, 1), PHRASE,
                row(0, 1, NONE), row(1, 1, NONE), row(2, 2, 0), row(4, 3, 2), row(7, 1, 0));
        // 2 1 is no phrase, though it stands in the text before.
        duePieces(of(1, 2, 1, 1, 2, 1), PHRASE, row(0, 1, NONE), row(1, 1, NONE), row(2, 2, 0), row(4, 2, 1));
    }

    private static void promise15TheLastPhraseMayBeOneBefore() {
        duePieces(of(4, 4), PHRASE, row(0, 1, NONE), row(1, 1, 0));
        duePieces(of(4, 4, 4, 4, 4), PHRASE, row(0, 1, NONE), row(1, 2, 0), row(3, 2, 1));
        duePieces(of(5, 4, 4), PHRASE, row(0, 1, NONE), row(1, 1, NONE), row(2, 1, 1));
        // The whole of it is phrase 2; but for its last sign it is phrase 0.
        duePieces(of(1, 2, 1, 2, 1, 2), PHRASE, row(0, 1, NONE), row(1, 1, NONE), row(2, 2, 0), row(4, 2, 2));
    }

    private static void promise15TheLastPhraseMayBeNew() {
        duePieces(of(4, 4, 4), PHRASE, row(0, 1, NONE), row(1, 2, 0));
        duePieces(of(4, 4, 5), PHRASE, row(0, 1, NONE), row(1, 2, 0));
        duePieces(of(4, 5), PHRASE, row(0, 1, NONE), row(1, 1, NONE));
    }

    private static void promise15ALastPhraseGrowsWithTheText() {
        Subject x = of(4, 4);
        duePieces(x, PHRASE, row(0, 1, NONE), row(1, 1, 0));
        x.sign(5);
        duePieces(x, PHRASE, row(0, 1, NONE), row(1, 2, 0));
        x.sign(4);
        duePieces(x, PHRASE, row(0, 1, NONE), row(1, 2, 0), row(3, 1, 0));
        x.sign(5);
        duePieces(x, PHRASE, row(0, 1, NONE), row(1, 2, 0), row(3, 2, 1));
    }

    private static void promise15OfAFullTextTheLastPhrase() {
        Subject x = filled(MOST_SIGNS, p -> 6);
        int place = 0;
        for (int i = 0; i < 27; i++) {
            due("place of phrase " + i, x.piece(PHRASE, i, 0), place);
            due("length of phrase " + i, x.piece(PHRASE, i, 1), i + 1);
            due("source of phrase " + i, x.piece(PHRASE, i, 2), i == 0 ? NONE : i - 1);
            place += i + 1;
        }
        due("place of the last", x.piece(PHRASE, 27, 0), 378);
        due("length of the last", x.piece(PHRASE, 27, 1), 22);
        due("the phrase that the last is", x.piece(PHRASE, 27, 2), 21);
        due("phrase 28", x.piece(PHRASE, 28, 0), BAD);
    }

    private static void promise15TheOrderDoesNotMatter() {
        Subject x = of(4, 4, 4, 4);
        x.order(3);
        duePieces(x, FACTOR, row(0, 1, NONE), row(1, 3, 0));
        duePieces(x, PHRASE, row(0, 1, NONE), row(1, 2, 0), row(3, 1, 0));
    }

    private static void promise15ChangesNothing() {
        dueUnchanged("a piece", Boundaries::ordinary, x -> {
            x.piece(FACTOR, 2, 2);
            x.piece(PHRASE, 0, 2);
            x.piece(FACTOR, 99, 0);
            x.piece(PHRASE, -1, 0);
            x.piece(2, 0, 0);
            x.piece(0, 0, 3);
        });
    }
}
