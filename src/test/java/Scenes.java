/** Objects in which a good deal is there, so that a call that changes what it must not is seen by it. */
final class Scenes {
    /** Four aunts, the last of them AWAY, three askers, and of everything some; THE IMAGE is not as all is now. */
    static final String[] SOME = {
        "aunt 6 4 240", "aunt 1 6 200", "aunt 2 3 85", "aunt 5 2 12",
        "row 0 0 9", "row 0 1 3", "row 0 3 6", "weigh 3 9", "weigh 7 5", "away 3 true",
        "asker", "asker", "asker", "begin 1 6",
        "text nerve 20;bold 1 v>3&h<2;shy 1 d=3", "valley",
        "say 7 8", "plan 0 0", "book 2 3", "text nerve 8", "pass 1", "image",
        "learn 2 87", "weigh 0 2", "row 0 2 5", "pass 1", "begin 2 128", "learn 0 241",
        "say -1 0", "say 0 208", "say 9 64", "plan -1 0", "plan 1 2", "plan 0 0", "plan 3 1", "plan 0 0",
        "book -1 0", "book 2 128", "book 0 1", "text ;bold 2 k=6", "act 0 2 5"};

    /** As many aunts, askers, valleys, rows of what was said, of the plan and of the book as there may be. */
    static final String[] FULL = {
        "aunt 4 9 255", "aunt 6 2 143", "aunt 1 7 97", "aunt 0 0 7", "asker", "asker", "weigh 5 7", "weigh 2 4",
        "text nerve 1", "valley", "text nerve 2", "valley", "text nerve 3", "valley", "pass 2", "image",
        "aunt 5 5 130", "aunt 3 1 60", "asker", "asker", "asker", "begin 4 17", "away 2 true", "row 1 3 8",
        "text nerve 4", "valley", "text nerve 33;bold 1 l>3", "valley", "pass 1",
        "say 1 32", "say 2 32", "say 3 32", "say 4 32", "say 5 32",
        "plan 0 0", "plan 0 0", "plan 1 4", "plan 0 0", "plan 2 2", "plan 3 0", "plan 0 0", "plan 0 0",
        "book 4 17", "book 4 17", "book 4 17", "book 4 17", "book 4 17", "book 4 17", "book 4 17", "book 4 18",
        "text shy 1", "act 0 2 9"};

    private Scenes() {
    }

    static AuntsInTurn played(String... calls) {
        AuntsInTurn x = new AuntsInTurn();
        Played.on(x, calls);
        return x;
    }

    static AuntsInTurn some() {
        return played(SOME);
    }

    static AuntsInTurn full() {
        return played(FULL);
    }

    /** One TOLD one alone. */
    static AuntsInTurn told() {
        return played("aunt 6 4 255", "row 0 0 1", "row 0 1 2", "row 0 2 4", "row 0 3 9", "asker");
    }

    /** A VALLEY's text of 100 signs is on the tape. */
    static AuntsInTurn fullTape() {
        AuntsInTurn x = new AuntsInTurn();
        Played.on(x, "aunt 0 1 15", "asker", "text nerve 20", "valley", "image");
        Check.feed(x, "bold 10 " + "p=0&".repeat(22) + "p<10");
        x.pass(1);
        return x;
    }
}
