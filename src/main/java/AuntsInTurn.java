import java.util.ArrayList;
import java.util.Arrays;

/** Great-aunts up a valley, and those who ask them in turn: ../shared/DOC.md says what each call answers. */
public final class AuntsInTurn {
    public static final int NONE = -1, BAD = -2, STATE = -3, FULL = -4;
    public static final long NO = Long.MIN_VALUE;

    private static final int NOT_ANY = -5, OTHER_KIND = -6, FAULT_AHEAD = -10;
    private static final int FACTS = 8, ALL_FACTS = 255, KINDS = 7, DIGIT_TOP = 9, ROW_DAYS = 4;
    private static final int AUNTS_TOP = 6, ASKERS_TOP = 5, VALLEYS_TOP = 5, TAPE_TOP = 100, SIGN_TOP = 127;
    private static final int SAID_TOP = 5, PLAN_TOP = 8, BOOK_TOP = 8, TRACE_TOP = 20;
    private static final int DAYS_AT_ONCE = 60, DAY_TOP = 9999, SHOCK_TOP = 9999, NERVE_WITHOUT = 12;

    private final World now = new World();
    private final World image = new World();
    /** Days to come go on in this copy, so that asking for them changes nothing. */
    private final World trial = new World();
    private final Rows ran = new Rows(TRACE_TOP);
    private boolean imaged = false;

    public AuntsInTurn() {
    }

    // ---- valleys, aunts, askers

    public int feed(int sign) {
        if (sign < 0 || sign > SIGN_TOP) {
            return BAD;
        }
        return now.writes(sign);
    }

    public int valley() {
        if (now.valleys.size() >= VALLEYS_TOP) {
            return FULL;
        }
        Valley read = new Valley(Arrays.copyOf(now.tape, Math.max(0, now.signs)));
        now.signs = 0;
        int fault = read.fault();
        if (fault != NONE) {
            return FAULT_AHEAD - fault;
        }
        now.valleys.add(read);
        return now.valleys.size() - 1;
    }

    public int aunt(int kind, int v, int knows) {
        if (kind < 0 || kind >= KINDS) {
            return NONE;
        }
        if (!isDigit(v) || !areFacts(knows)) {
            return BAD;
        }
        int number = now.aunts.size();
        if (number >= AUNTS_TOP) {
            return FULL;
        }
        now.aunts.add(auntOf(kind, number, v, knows));
        return number;
    }

    public int of(int aunt, int what) {
        if (!now.hasAunt(aunt)) {
            return NONE;
        }
        Aunt she = now.aunts.get(aunt);
        switch (what) {
            case 0: return she.kind();
            case 1: return she.v;
            case 2: return she.knows;
            case 3: return now.isAway(aunt) ? 1 : 0;
            default: return NONE;
        }
    }

    public int says(int aunt, int heard, int what) {
        if (!now.hasAunt(aunt) || what < 0 || what > 2) {
            return NONE;
        }
        if (!areFacts(heard)) {
            return BAD;
        }
        Aunt she = now.aunts.get(aunt);
        switch (what) {
            case 0: return she.left(heard);
            case 1: return now.holding().mouth(she, heard, now.day);
            default: return now.speech(she, heard);
        }
    }

    public int row(int aunt, int k, int n) {
        if (!now.hasAunt(aunt) || k < 0 || k >= ROW_DAYS) {
            return NONE;
        }
        if (!isDigit(n)) {
            return BAD;
        }
        if (now.aunts.get(aunt) instanceof Told told) {
            return told.write(k, n);
        }
        return STATE;
    }

    public int learn(int aunt, int knows) {
        if (!now.hasAunt(aunt)) {
            return NONE;
        }
        if (!areFacts(knows)) {
            return BAD;
        }
        Aunt she = now.aunts.get(aunt);
        int was = she.knows;
        she.knows = knows;
        return was;
    }

    public int away(int aunt, boolean is) {
        if (!now.hasAunt(aunt)) {
            return NONE;
        }
        int was = now.isAway(aunt) ? 1 : 0;
        now.setAway(aunt, is);
        return was;
    }

    public int weigh(int fact, int n) {
        if (!isFact(fact)) {
            return NONE;
        }
        if (!isDigit(n)) {
            return BAD;
        }
        int was = now.weights[fact];
        now.weights[fact] = n;
        return was;
    }

    public int asker() {
        int number = now.askers.size();
        if (number >= ASKERS_TOP) {
            return FULL;
        }
        now.askers.add(new Asker());
        return number;
    }

    public int at(int asker, int what) {
        if (!now.hasAsker(asker)) {
            return NONE;
        }
        Asker it = now.askers.get(asker);
        switch (what) {
            case 0: return it.heard;
            case 1: return it.shock;
            case 2: return it.place;
            case 3: return it.back ? 1 : 0;
            case 4: return comes(asker);
            default: return NONE;
        }
    }

    public int begin(int asker, int heard) {
        if (!now.hasAsker(asker)) {
            return NONE;
        }
        if (!areFacts(heard)) {
            return BAD;
        }
        Asker it = now.askers.get(asker);
        int was = it.heard;
        it.heard = heard;
        it.startAnew();
        return was;
    }

    public int told(int what) {
        if (what >= 10 && isFact(what - 10)) {
            return now.weights[what - 10];
        }
        switch (what) {
            case 0: return now.day;
            case 1: return now.holding().nerve;
            case 2: return now.away;
            case 3: return now.howManyThrough();
            case 4: return now.howManyBack();
            default: return NONE;
        }
    }

    public int pass(int n) {
        if (!areDays(n)) {
            return BAD;
        }
        if (now.day + n > DAY_TOP) {
            return STATE;
        }
        now.daysGo(n);
        return now.day;
    }

    // ---- days to come, climbs

    public int on(int n, int what) {
        int group = what < 0 ? NONE : what / 10;
        boolean ofAsker = group >= 1 && group <= 3 && now.hasAsker(what % 10);
        if (what != 0 && !ofAsker) {
            return NONE;
        }
        if (!areDays(n)) {
            return BAD;
        }
        trial.take(now);
        trial.daysGo(n);
        if (what == 0 || !trial.hasAsker(what % 10)) {
            return trial.howManyBack();
        }
        Asker it = trial.askers.get(what % 10);
        switch (group) {
            case 1: return it.heard;
            case 2: return it.place;
            default: return it.shock;
        }
    }

    public int climb(int way, int heard, int what) {
        if (way < 0 || way > 1 || what < 0 || what > 2) {
            return NONE;
        }
        if (!areFacts(heard)) {
            return BAD;
        }
        Asker climber = now.climbs(way == 0, heard, now.away);
        switch (what) {
            case 0: return climber.heard;
            case 1: return climber.shock;
            default: return climber.back ? climber.place : NOT_ANY;
        }
    }

    public int order(int heard, int what) {
        int k = what - 10;
        boolean asksOne = what >= 10 && k < AUNTS_TOP;
        if (what != 0 && what != 1 && !asksOne) {
            return NONE;
        }
        if (!areFacts(heard)) {
            return BAD;
        }
        int best = now.bestOrder(heard);
        if (best == NONE) {
            return NOT_ANY;
        }
        if (asksOne) {
            return k < now.aunts.size() ? World.auntInOrder(best, now.aunts.size() - 1 - k) : NOT_ANY;
        }
        return what == 0 ? World.factsByOrder(best) : World.shockByOrder(best);
    }

    public int hush(int fact) {
        return isFact(fact) ? now.fewestToHush(fact) : NONE;
    }

    public int whole(int what) {
        switch (what) {
            case 0: return now.fewestWhoKnowAll();
            case 1: return Integer.bitCount(now.knownTogether(now.allAunts()));
            default: return NONE;
        }
    }

    // ---- said, odds; part 0 above, 1 below the line

    public int say(int heard, int said) {
        if (heard == -1) {
            return now.said.clear();
        }
        if (!areFacts(heard) || !areFacts(said)) {
            return BAD;
        }
        return now.said.isFull() ? FULL : now.said.put(heard, said);
    }

    public int knew(int aunt, int what) {
        if (!now.hasAunt(aunt) || what < 0 || what > 1) {
            return NONE;
        }
        Aunt twin = now.aunts.get(aunt).twin();
        int many = 0;
        int least = NOT_ANY;
        for (int knows = ALL_FACTS; knows >= 0; knows--) {
            twin.knows = knows;
            if (now.fitsSaid(twin)) {
                many++;
                least = knows;
            }
        }
        return what == 0 ? many : least;
    }

    public int firm(int aunt, int what) {
        if (!now.hasAunt(aunt) || what < 0 || what > 1) {
            return NONE;
        }
        Aunt twin = now.aunts.get(aunt).twin();
        int many = 0;
        int least = NOT_ANY;
        for (int v = DIGIT_TOP; v >= 0; v--) {
            twin.v = v;
            if (now.fitsSaid(twin)) {
                many++;
                least = v;
            }
        }
        return what == 0 ? many : least;
    }

    public int who() {
        int who = 0;
        for (int i = 0; i < now.aunts.size(); i++) {
            if (now.fitsSaid(now.aunts.get(i))) {
                who |= 1 << i;
            }
        }
        return who;
    }

    public long odds(int heard, int fact, int part) {
        int all = now.aunts.size();
        if (!areFacts(heard) || !isFact(fact) || part < 0 || part > 1 || all == 0) {
            return NO;
        }
        int hits = 0;
        for (int i = 0; i < all; i++) {
            hits += now.climbs(true, heard, now.away | 1 << i).heard >> fact & 1;
        }
        return lowest(hits, all, part);
    }

    public long mean(int part) {
        int all = now.askers.size();
        if (part < 0 || part > 1 || all == 0) {
            return NO;
        }
        int shocks = 0;
        for (int i = 0; i < all; i++) {
            shocks += now.askers.get(i).shock;
        }
        return lowest(shocks, all, part);
    }

    // ---- plans, books

    public int plan(int what, int n) {
        if (what == -1) {
            return now.plan.clear();
        }
        boolean noAunt = (what == 1 || what == 2) && !now.hasAunt(n);
        boolean noAsker = what == 3 && !now.hasAsker(n);
        if (what < 0 || what > 3 || noAunt || noAsker) {
            return NONE;
        }
        return now.plan.isFull() ? FULL : now.plan.put(what, n);
    }

    public int done(int what) {
        if (what < 0 || what > 1) {
            return NONE;
        }
        trial.take(now);
        for (int i = 0; i < now.plan.kept(); i++) {
            int step = now.plan.first(i);
            int n = now.plan.second(i);
            if (step == 0) {
                trial.daysGo(1);
            } else if (step == 3 && trial.hasAsker(n)) {
                trial.askers.get(n).startAnew();
            } else {
                trial.setAway(n, step == 1);
            }
        }
        return what == 0 ? trial.howManyBack() : trial.howManyThrough();
    }

    public int book(int asker, int heard) {
        if (asker == -1) {
            return now.book.clear();
        }
        if (!now.hasAsker(asker)) {
            return NONE;
        }
        if (!areFacts(heard)) {
            return BAD;
        }
        return now.book.isFull() ? FULL : now.book.put(asker, heard);
    }

    public int looked() {
        for (int i = 0; i < now.book.kept(); i++) {
            int asker = now.book.first(i);
            if (now.hasAsker(asker) && now.askers.get(asker).heard != now.book.second(i)) {
                return i;
            }
        }
        return NOT_ANY;
    }

    // ---- acts, the image

    public int act(int aunt, int act, int x) {
        ran.clear();
        if (!now.hasAunt(aunt)) {
            return 0;
        }
        Aunt she = now.aunts.get(aunt);
        switch (act) {
            case 0: return she.rings(ran, x);
            case 1: return she.asks(ran, x);
            case 2: return she.warns(ran, x);
            default: return 0;
        }
    }

    public int trace(int i) {
        return ran.first(i);
    }

    public int as(int aunt, int k) {
        if (!now.hasAunt(aunt) || k < 0 || k >= KINDS) {
            return NONE;
        }
        Aunt she = now.aunts.get(aunt);
        return isOfKind(she, k) ? she.v : OTHER_KIND;
    }

    public int image() {
        image.take(now);
        imaged = true;
        return now.aunts.size();
    }

    public int undo() {
        if (!imaged) {
            return STATE;
        }
        now.take(image);
        return now.aunts.size();
    }

    public int count(int what) {
        switch (what) {
            case 0: return now.aunts.size();
            case 1: return now.askers.size();
            case 2: return now.valleys.size();
            case 3: return now.said.came();
            case 4: return now.plan.came();
            case 5: return now.book.came();
            case 6: return now.signs;
            case 7: return ran.came();
            default: return NONE;
        }
    }

    // ---- what the calls share

    private static boolean isFact(int fact) {
        return fact >= 0 && fact < FACTS;
    }

    private static boolean areFacts(int facts) {
        return facts >= 0 && facts <= ALL_FACTS;
    }

    private static boolean isDigit(int n) {
        return n >= 0 && n <= DIGIT_TOP;
    }

    private static boolean areDays(int n) {
        return n >= 0 && n <= DAYS_AT_ONCE;
    }

    private static Aunt auntOf(int kind, int number, int v, int knows) {
        switch (kind) {
            case 1: return new Blunt(number, v, knows);
            case 2: return new Meek(number, v, knows);
            case 3: return new Sly(number, v, knows);
            case 4: return new Pious(number, v, knows);
            case 5: return new Baker(number, v, knows);
            case 6: return new Told(number, v, knows);
            default: return new Aunt(number, v, knows);
        }
    }

    private static boolean isOfKind(Aunt aunt, int kind) {
        switch (kind) {
            case 1: return aunt instanceof Blunt;
            case 2: return aunt instanceof Meek;
            case 3: return aunt instanceof Sly;
            case 4: return aunt instanceof Pious;
            case 5: return aunt instanceof Baker;
            case 6: return aunt instanceof Told;
            default: return true;
        }
    }

    private int comes(int asker) {
        trial.take(now);
        // Each day takes everybody one house on or turns them back, so by then nobody is on the way.
        trial.daysGo(trial.aunts.size());
        if (!trial.hasAsker(asker)) {
            return NOT_ANY;
        }
        Asker it = trial.askers.get(asker);
        return it.back ? NOT_ANY : it.heard;
    }

    /** A part of the fraction in lowest terms; above is 0 at least, below 1. */
    private static long lowest(int above, int below, int part) {
        int divisor = below;
        int rest = above;
        for (int i = 0; i < 64 && rest > 0; i++) {
            int next = divisor % rest;
            divisor = rest;
            rest = next;
        }
        int asked = part == 0 ? above : below;
        return divisor > 0 ? asked / divisor : NO;
    }

    /** An aunt who is not of any closer kind; where she lives and how she is asked is the same for all of them. */
    private static class Aunt {
        final int number;
        int v;
        int knows;

        Aunt(int number, int v, int knows) {
            this.number = number;
            this.v = v;
            this.knows = knows;
        }

        int kind() {
            return 0;
        }

        Aunt twin() {
            return new Aunt(number, v, knows);
        }

        final int left(int heard) {
            return knows & ~heard;
        }

        /** What she tells of what is left, by how much her mouth tells at once. */
        int picks(World world, int heard, int left, int mouth) {
            int picked = 0;
            int rest = mouth;
            for (int fact = 0; fact < FACTS && rest > 0; fact++) {
                if ((left >> fact & 1) == 1) {
                    picked |= 1 << fact;
                    rest--;
                }
            }
            return picked;
        }

        int rings(Rows ran, int x) {
            ran.put(1, x);
            return x + number;
        }

        int asks(Rows ran, int x) {
            ran.put(2, x);
            return rings(ran, x) - v;
        }

        int warns(Rows ran, int x) {
            ran.put(3, x);
            return asks(ran, x) * 2;
        }
    }

    private static class Blunt extends Aunt {
        Blunt(int number, int v, int knows) {
            super(number, v, knows);
        }

        @Override
        int kind() {
            return 1;
        }

        @Override
        Aunt twin() {
            return new Blunt(number, v, knows);
        }

        @Override
        int picks(World world, int heard, int left, int mouth) {
            int picked = 0;
            int rest = left;
            for (int n = 0; n < mouth && n < FACTS && rest != 0; n++) {
                int heaviest = 1 << world.heaviest(rest);
                picked |= heaviest;
                rest &= ~heaviest;
            }
            return picked;
        }

        @Override
        int rings(Rows ran, int x) {
            ran.put(11, x);
            return super.rings(ran, x * 3);
        }
    }

    private static class Meek extends Aunt {
        Meek(int number, int v, int knows) {
            super(number, v, knows);
        }

        @Override
        int kind() {
            return 2;
        }

        @Override
        Aunt twin() {
            return new Meek(number, v, knows);
        }

        @Override
        int picks(World world, int heard, int left, int mouth) {
            return Integer.bitCount(heard) >= v ? 0 : super.picks(world, heard, left, mouth);
        }

        @Override
        int asks(Rows ran, int x) {
            ran.put(21, x);
            return -super.asks(ran, x);
        }
    }

    private static class Sly extends Aunt {
        Sly(int number, int v, int knows) {
            super(number, v, knows);
        }

        @Override
        int kind() {
            return 3;
        }

        @Override
        Aunt twin() {
            return new Sly(number, v, knows);
        }

        @Override
        int picks(World world, int heard, int left, int mouth) {
            int picked = 0;
            int rest = mouth;
            for (int fact = FACTS - 1; fact >= 0 && rest > 0; fact--) {
                if ((left >> fact & 1) == 1) {
                    picked |= 1 << fact;
                    rest--;
                }
            }
            return picked;
        }

        @Override
        int warns(Rows ran, int x) {
            ran.put(31, x);
            return super.warns(ran, x) ^ 7;
        }
    }

    private static final class Pious extends Blunt {
        Pious(int number, int v, int knows) {
            super(number, v, knows);
        }

        @Override
        int kind() {
            return 4;
        }

        @Override
        Aunt twin() {
            return new Pious(number, v, knows);
        }

        @Override
        int picks(World world, int heard, int left, int mouth) {
            return super.picks(world, heard, left, mouth) & ~(1 << (v % FACTS));
        }

        @Override
        int warns(Rows ran, int x) {
            ran.put(41, x);
            return super.warns(ran, x - 1) + rings(ran, 2);
        }
    }

    private static final class Baker extends Meek {
        Baker(int number, int v, int knows) {
            super(number, v, knows);
        }

        @Override
        int kind() {
            return 5;
        }

        @Override
        Aunt twin() {
            return new Baker(number, v, knows);
        }

        @Override
        int picks(World world, int heard, int left, int mouth) {
            return super.picks(world, heard, left, mouth) | (1 & ~heard);
        }

        @Override
        int rings(Rows ran, int x) {
            ran.put(51, x);
            return super.rings(ran, x) ^ number;
        }
    }

    private static final class Told extends Sly {
        private final int[] row = new int[ROW_DAYS];

        Told(int number, int v, int knows) {
            super(number, v, knows);
        }

        @Override
        int kind() {
            return 6;
        }

        @Override
        Aunt twin() {
            Told twin = new Told(number, v, knows);
            System.arraycopy(row, 0, twin.row, 0, ROW_DAYS);
            return twin;
        }

        int write(int k, int n) {
            if (k < 0 || k >= ROW_DAYS) {
                return NONE;
            }
            int was = row[k];
            row[k] = n;
            return was;
        }

        @Override
        int picks(World world, int heard, int left, int mouth) {
            int today = row[Math.floorMod(world.day, ROW_DAYS)];
            return super.picks(world, heard, left, mouth) | (today & left);
        }

        @Override
        int asks(Rows ran, int x) {
            ran.put(61, x);
            return super.asks(ran, x) + v;
        }
    }

    /** One who asks; a climb is gone by one, too. */
    private static final class Asker {
        int heard = 0;
        int shock = 0;
        int place = 0;
        boolean back = false;

        void startAnew() {
            place = 0;
            shock = 0;
            back = false;
        }

        void hears(int said, int weight, int nerve) {
            heard |= said;
            // Held on days to come, too: as no NERVE is above 99, no SHOCK comes near the limit.
            shock = Math.min(SHOCK_TOP, shock + weight);
            back = shock > nerve;
        }

        Asker twin() {
            Asker twin = new Asker();
            twin.heard = heard;
            twin.shock = shock;
            twin.place = place;
            twin.back = back;
            return twin;
        }
    }

    /** Rows of two numbers as they came; those behind the limit are counted, not kept. */
    private static final class Rows {
        private final int[] first;
        private final int[] second;
        private int came = 0;

        Rows(int limit) {
            int size = Math.max(0, limit);
            first = new int[size];
            second = new int[size];
        }

        int put(int one, int other) {
            if (came < first.length) {
                first[came] = one;
                second[came] = other;
            }
            came++;
            return came;
        }

        int clear() {
            came = 0;
            return came;
        }

        int came() {
            return came;
        }

        int kept() {
            return Math.min(came, first.length);
        }

        boolean isFull() {
            return came >= first.length;
        }

        int first(int i) {
            return i >= 0 && i < kept() ? first[i] : NONE;
        }

        int second(int i) {
            return i >= 0 && i < kept() ? second[i] : NONE;
        }

        void take(Rows other) {
            int size = Math.min(first.length, other.kept());
            System.arraycopy(other.first, 0, first, 0, size);
            System.arraycopy(other.second, 0, second, 0, size);
            came = other.came;
        }
    }

    /**
     * A valley's text as it was read. The conditions of all its clauses stand behind one another in code, each one
     * with its joints behind what they join, so that they are looked at without recursion.
     */
    private static final class Valley {
        private static final String SUBJECTS = "pkvhld", RELATIONS = "<=>";
        private static final int SUBJECT_COUNT = 6, RELATION_COUNT = 3, CLAUSES_TOP = 10, OPEN_TOP = 5, NUMBERS = 100;
        private static final int NOT = -1, AND = -2, OR = -3;

        private final int[] text;
        private int place = 0;
        private final int[] code;
        private int codes = 0;
        private final int[] share = new int[CLAUSES_TOP];
        private final int[] codeEnd = new int[CLAUSES_TOP];
        private int shares = 0;
        private final int[] subjects = new int[SUBJECT_COUNT];
        int nerve = NERVE_WITHOUT;

        Valley(int[] text) {
            this.text = text;
            // A joint or a test stands for one sign of the text at least.
            this.code = new int[text.length];
        }

        /** Reads the text: NONE, or the place of its fault. */
        int fault() {
            boolean well = clause();
            for (int n = 1; n < CLAUSES_TOP && well && here() == ';'; n++) {
                place++;
                well = clause();
            }
            return well && place == text.length ? NONE : place;
        }

        // Each of these goes on behind what it reads; where it can't, place is left at the sign that is in the way.

        private boolean clause() {
            int first = here();
            int n = word(first == 'n' ? "nerve " : first == 'b' ? "bold " : "shy ") ? number() : NONE;
            if (n == NONE) {
                return false;
            }
            if (first == 'n') {
                nerve = n;
                return true;
            }
            if (!word(" ") || !either(0) || shares >= CLAUSES_TOP) {
                return false;
            }
            share[shares] = first == 'b' ? n : -n;
            codeEnd[shares] = codes;
            shares++;
            return true;
        }

        private boolean either(int open) {
            boolean well = both(open);
            for (int n = 0; n < TAPE_TOP && well && here() == '|'; n++) {
                place++;
                well = both(open) && put(OR);
            }
            return well;
        }

        private boolean both(int open) {
            boolean well = single(open);
            for (int n = 0; n < TAPE_TOP && well && here() == '&'; n++) {
                place++;
                well = single(open) && put(AND);
            }
            return well;
        }

        private boolean single(int open) {
            int sign = here();
            if (sign == '!' || sign == '(') {
                if (open >= OPEN_TOP) {
                    return false;
                }
                place++;
                return sign == '!' ? single(open + 1) && put(NOT) : either(open + 1) && word(")");
            }
            int subject = oneOf(SUBJECTS);
            int relation = subject == NONE ? NONE : oneOf(RELATIONS);
            int n = relation == NONE ? NONE : number();
            return n != NONE && put((subject * RELATION_COUNT + relation) * NUMBERS + n);
        }

        private int oneOf(String signs) {
            int sign = here();
            int which = sign < 0 ? NONE : signs.indexOf((char) sign);
            if (which < 0) {
                return NONE;
            }
            place++;
            return which;
        }

        private int number() {
            int first = here() - '0';
            if (!isDigit(first)) {
                return NONE;
            }
            place++;
            int second = here() - '0';
            if (first == 0 || !isDigit(second)) {
                return first;
            }
            place++;
            return first * 10 + second;
        }

        private boolean word(String signs) {
            for (int i = 0; i < signs.length(); i++) {
                if (here() != signs.charAt(i)) {
                    return false;
                }
                place++;
            }
            return true;
        }

        private int here() {
            return place >= 0 && place < text.length ? text[place] : NONE;
        }

        private boolean put(int piece) {
            if (codes >= code.length) {
                return false;
            }
            code[codes] = piece;
            codes++;
            return true;
        }

        int mouth(Aunt aunt, int heard, int day) {
            subjects[0] = aunt.number;
            subjects[1] = aunt.kind();
            subjects[2] = aunt.v;
            subjects[3] = Integer.bitCount(heard);
            subjects[4] = Integer.bitCount(aunt.left(heard));
            subjects[5] = day % 10;
            int mouth = 1;
            int from = 0;
            for (int i = 0; i < shares; i++) {
                if (holds(from, codeEnd[i])) {
                    mouth += share[i];
                }
                from = codeEnd[i];
            }
            return Math.max(0, mouth);
        }

        /** Open results lie as bits, the last one lowest; five ( leave two of them each, so that an int holds all. */
        private boolean holds(int from, int end) {
            int results = 0;
            for (int i = Math.max(0, from); i < end && i < code.length; i++) {
                int last = results & 1;
                switch (code[i]) {
                    case NOT:
                        results ^= 1;
                        break;
                    case AND:
                        results = (results >> 1) & (last | ~1);
                        break;
                    case OR:
                        results = (results >> 1) | last;
                        break;
                    default:
                        results = (results << 1) | (passes(code[i]) ? 1 : 0);
                }
            }
            return (results & 1) == 1;
        }

        private boolean passes(int test) {
            int subject = test / (NUMBERS * RELATION_COUNT);
            if (subject < 0 || subject >= subjects.length) {
                return false;
            }
            int n = test % NUMBERS;
            switch (test / NUMBERS % RELATION_COUNT) {
                case 0: return subjects[subject] < n;
                case 1: return subjects[subject] == n;
                default: return subjects[subject] > n;
            }
        }
    }

    /** All that there is but the image and the trace; there is one for now, one for the image, one for days to come. */
    private static final class World {
        private static final int AUNT_BITS = 3, AUNT_MASK = (1 << AUNT_BITS) - 1;
        private static final int ROW_BITS = AUNT_BITS * AUNTS_TOP, ROW_MASK = (1 << ROW_BITS) - 1;
        private static final int SHOCK_BITS = 7, SHOCK_MASK = (1 << SHOCK_BITS) - 1;

        final ArrayList<Aunt> aunts = new ArrayList<>();
        final ArrayList<Asker> askers = new ArrayList<>();
        final ArrayList<Valley> valleys = new ArrayList<>();
        final int[] weights = new int[FACTS];
        final int[] tape = new int[TAPE_TOP];
        int signs = 0;
        final Rows said = new Rows(SAID_TOP);
        final Rows plan = new Rows(PLAN_TOP);
        final Rows book = new Rows(BOOK_TOP);
        int day = 0;
        int away = 0;
        private final Valley noValley = new Valley(new int[0]);
        private final Asker climber = new Asker();

        World() {
            Arrays.fill(weights, 1);
        }

        void take(World other) {
            aunts.clear();
            for (int i = 0; i < other.aunts.size(); i++) {
                aunts.add(other.aunts.get(i).twin());
            }
            askers.clear();
            for (int i = 0; i < other.askers.size(); i++) {
                askers.add(other.askers.get(i).twin());
            }
            valleys.clear();
            for (int i = 0; i < other.valleys.size(); i++) {
                valleys.add(other.valleys.get(i));
            }
            System.arraycopy(other.weights, 0, weights, 0, FACTS);
            System.arraycopy(other.tape, 0, tape, 0, TAPE_TOP);
            signs = other.signs;
            said.take(other.said);
            plan.take(other.plan);
            book.take(other.book);
            day = other.day;
            away = other.away;
        }

        boolean hasAunt(int number) {
            return number >= 0 && number < aunts.size();
        }

        boolean hasAsker(int number) {
            return number >= 0 && number < askers.size();
        }

        int allAunts() {
            return (1 << aunts.size()) - 1;
        }

        int writes(int sign) {
            if (signs < 0 || signs >= TAPE_TOP) {
                return FULL;
            }
            tape[signs] = sign;
            signs++;
            return signs;
        }

        boolean isAway(int aunt) {
            return (away >> aunt & 1) == 1;
        }

        void setAway(int aunt, boolean is) {
            int bit = 1 << aunt;
            away = is ? away | bit : away & ~bit;
        }

        Valley holding() {
            return valleys.isEmpty() ? noValley : valleys.get(valleys.size() - 1);
        }

        int weightOf(int facts) {
            int weight = 0;
            for (int fact = 0; fact < FACTS; fact++) {
                if ((facts >> fact & 1) == 1) {
                    weight += weights[fact];
                }
            }
            return weight;
        }

        int heaviest(int facts) {
            int heaviest = 0;
            int weight = -1;
            for (int fact = 0; fact < FACTS; fact++) {
                if ((facts >> fact & 1) == 1 && weights[fact] > weight) {
                    heaviest = fact;
                    weight = weights[fact];
                }
            }
            return heaviest;
        }

        int speech(Aunt aunt, int heard) {
            return aunt.picks(this, heard, aunt.left(heard), holding().mouth(aunt, heard, day));
        }

        void daysGo(int n) {
            for (int i = 0; i < n; i++) {
                for (int j = 0; j < askers.size(); j++) {
                    visit(askers.get(j));
                }
                day++;
            }
        }

        private void visit(Asker asker) {
            if (asker.back || !hasAunt(asker.place)) {
                return;
            }
            if (!isAway(asker.place)) {
                int said = speech(aunts.get(asker.place), asker.heard);
                asker.hears(said, weightOf(said), holding().nerve);
            }
            if (!asker.back) {
                asker.place++;
            }
        }

        int howManyBack() {
            int many = 0;
            for (int i = 0; i < askers.size(); i++) {
                many += askers.get(i).back ? 1 : 0;
            }
            return many;
        }

        int howManyThrough() {
            int many = 0;
            for (int i = 0; i < askers.size(); i++) {
                many += askers.get(i).place >= aunts.size() ? 1 : 0;
            }
            return many;
        }

        /** One who climbs while those of absent are away; if back, its place is the aunt's at whom it is. */
        Asker climbs(boolean up, int heard, int absent) {
            climber.startAnew();
            climber.heard = heard;
            int last = aunts.size() - 1;
            for (int i = 0; i <= last && !climber.back; i++) {
                int number = up ? i : last - i;
                if ((absent >> number & 1) == 0) {
                    int said = speech(aunts.get(number), climber.heard);
                    climber.place = number;
                    climber.hears(said, weightOf(said), holding().nerve);
                }
            }
            return climber;
        }

        /** Of the best order FACTS, SHOCK and the row in one number, or NONE. */
        int bestOrder(int heard) {
            return bestFrom(0, 0, heard, 0);
        }

        /** The best of all that begin with the row of those who are gone by. The better one, the greater its number. */
        private int bestFrom(int gone, int row, int heard, int shock) {
            if (gone == allAunts()) {
                int calm = SHOCK_MASK - shock;
                return ((Integer.bitCount(heard) << SHOCK_BITS | calm) << ROW_BITS) | (ROW_MASK - row);
            }
            int best = NONE;
            for (int i = 0; i < aunts.size(); i++) {
                if ((gone >> i & 1) == 1) {
                    continue;
                }
                int said = isAway(i) ? 0 : speech(aunts.get(i), heard);
                int more = shock + weightOf(said);
                if (more <= holding().nerve) {
                    best = Math.max(best, bestFrom(gone | 1 << i, row << AUNT_BITS | i, heard | said, more));
                }
            }
            return best;
        }

        static int factsByOrder(int best) {
            return best >> (ROW_BITS + SHOCK_BITS);
        }

        static int shockByOrder(int best) {
            return SHOCK_MASK - ((best >> ROW_BITS) & SHOCK_MASK);
        }

        static int auntInOrder(int best, int fromLast) {
            int row = ROW_MASK - (best & ROW_MASK);
            return (row >> (AUNT_BITS * fromLast)) & AUNT_MASK;
        }

        int fewestToHush(int fact) {
            int fewest = NOT_ANY;
            for (int set = 0; set <= allAunts(); set++) {
                if (isFewer(set, fewest) && (climbs(true, 0, away | set).heard >> fact & 1) == 0) {
                    fewest = set;
                }
            }
            return fewest;
        }

        int knownTogether(int set) {
            int known = 0;
            for (int i = 0; i < aunts.size(); i++) {
                if ((set >> i & 1) == 1) {
                    known |= aunts.get(i).knows;
                }
            }
            return known;
        }

        int fewestWhoKnowAll() {
            int known = knownTogether(allAunts());
            int fewest = NOT_ANY;
            for (int set = 0; set <= allAunts(); set++) {
                if (isFewer(set, fewest) && knownTogether(set) == known) {
                    fewest = set;
                }
            }
            return fewest;
        }

        private static boolean isFewer(int set, int fewest) {
            return fewest == NOT_ANY || Integer.bitCount(set) < Integer.bitCount(fewest);
        }

        boolean fitsSaid(Aunt aunt) {
            for (int i = 0; i < said.kept(); i++) {
                if (speech(aunt, said.first(i)) != said.second(i)) {
                    return false;
                }
            }
            return true;
        }
    }
}
