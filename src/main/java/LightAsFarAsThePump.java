/**
 * Light, as far as the pump: an alley of cells, one lamp that whoever goes out takes from where the last one
 * left it, goers of kinds by hours. What each call answers is told in ../shared/DOC.md.
 */
public final class LightAsFarAsThePump {

    private static final int CELLS = 40;
    private static final int HOURS = 12;
    private static final int GOERS = 7;
    private static final int KINDS = 6;
    private static final int FIGURES = 10;
    private static final int LETTERS = 96;
    private static final int GREATEST_LETTER = 255;
    private static final int ROW_ROOM = 12;
    private static final int GREATEST_IN_ROW = 99;
    private static final int GREATEST_OIL = 200;
    private static final int GREATEST_LOTS = 20;
    private static final int WATCHED = 3;

    private static final int NONE = -9;
    private static final int NOBODY = -1;
    private static final int OTHER = -2;
    private static final int STATE = -3;
    private static final int BELOW = -4;
    private static final int ROOM = -6;
    private static final int REFUSED_WHERE_BELOW_0_IS_AN_ANSWER = 1000000000;

    private final Alley alley = new Alley();
    private final Alley image = new Alley();
    // All questions of "what if" change this one, so that no call needs a new alley.
    private final Alley trial = new Alley();
    private final Letters letters = new Letters();
    private final Walk walk = new Walk();
    private final Orders orders = new Orders();
    private final Debts debts = new Debts();
    private final int[] row = new int[ROW_ROOM];
    private int inRow;
    private final int[] refusals = new int[-ROOM + 1];
    private boolean imageTaken;

    public LightAsFarAsThePump() {
        inRow = 0;
        imageTaken = false;
    }

    public int letter(int c) {
        if (c < 0) {
            return refuse(BELOW);
        }
        if (c > GREATEST_LETTER || letters.size >= LETTERS) {
            return refuse(ROOM);
        }
        letters.add(c);
        return letters.size;
    }

    public int night() {
        trial.becomeLike(alley);
        int answer = letters.tellTo(trial);
        if (answer >= 0) {
            alley.becomeLike(trial);
        }
        letters.size = 0;
        return answer;
    }

    public int goer(int goer, int what) {
        if (!alley.knows(goer)) {
            return refuse(NOBODY);
        }
        switch (what) {
            case 0: return Rows.at(alley.kind, goer);
            case 1: return Rows.at(alley.figure, goer);
            case 2: return Rows.at(alley.from, goer);
            case 3: return Rows.at(alley.to, goer);
            case 4: return Rows.at(alley.hour, goer);
            case 5: return alley.fetches(goer);
            case 6: return alley.darkStepCosts(goer);
            default: return refuse(OTHER);
        }
    }

    public int hour(int goer, int v) {
        if (!alley.knows(goer)) {
            return refuse(NOBODY);
        }
        if (v < 0) {
            return refuse(BELOW);
        }
        if (v >= HOURS) {
            return refuse(ROOM);
        }
        int was = Rows.at(alley.hour, goer);
        Rows.put(alley.hour, goer, v);
        return was;
    }

    public int set(int what, int v) {
        if (what < 0 || what >= Alley.SETTINGS) {
            return refuse(OTHER);
        }
        if (v < 0) {
            return refuse(BELOW);
        }
        int was = Rows.at(alley.setting, what);
        if (!alley.settle(what, v)) {
            return refuse(ROOM);
        }
        return was;
    }

    public int sums(int what) {
        walk.byHours(alley);
        switch (what) {
            case 0: return walk.allCost;
            case 1: return walk.allDark;
            case 2: return walk.allLight;
            case 3: return walk.firstLamp();
            case 4: return walk.oilLeft();
            case 5: return walk.takers;
            case 6: return walk.lastTaker;
            default: return refuse(OTHER);
        }
    }

    public int of(int goer, int what) {
        if (!alley.knows(goer)) {
            return refuse(NOBODY);
        }
        walk.byHours(alley);
        switch (what) {
            case 0: return Rows.at(walk.dark, goer);
            case 1: return Rows.at(walk.light, goer);
            case 2: return Rows.at(walk.cost, goer);
            case 3: return Rows.at(walk.stood, goer);
            case 4: return Rows.at(walk.had, goer);
            default: return refuse(OTHER);
        }
    }

    public int lamp(int hour) {
        int refusal = hourRefusal(hour);
        if (refusal != 0) {
            return refuse(refusal);
        }
        walk.byHours(alley);
        return Rows.at(walk.atEnd, hour);
    }

    public int best(int what, int i) {
        if (what != 0 && what != 1) {
            return refuse(OTHER);
        }
        if (alley.size > Orders.GREATEST) {
            return refuse(STATE);
        }
        if (i < -1) {
            return refuse(BELOW);
        }
        if (i >= alley.size) {
            return refuse(NOBODY);
        }
        orders.search(alley, walk, what == 1);
        if (!orders.found) {
            return NONE;
        }
        return i < 0 ? orders.leastCost : Rows.at(orders.best, i);
    }

    public int bestPump() {
        trial.becomeLike(alley);
        int best = 0;
        int least = Integer.MAX_VALUE;
        for (int cell = 0; cell < CELLS; cell++) {
            trial.settle(Alley.PUMP, cell);
            int cost = walk.byHours(trial);
            if (cost < least) {
                least = cost;
                best = cell;
            }
        }
        return best;
    }

    public int bestHour(int goer) {
        if (!alley.knows(goer)) {
            return refuse(NOBODY);
        }
        trial.becomeLike(alley);
        int best = 0;
        int least = Integer.MAX_VALUE;
        for (int hour = 0; hour < HOURS; hour++) {
            Rows.put(trial.hour, goer, hour);
            int cost = walk.byHours(trial);
            if (cost < least) {
                least = cost;
                best = hour;
            }
        }
        return best;
    }

    public int without(int goer) {
        if (!alley.knows(goer)) {
            return refuseAmongAll(NOBODY);
        }
        trial.becomeLike(alley);
        trial.sendHome(goer);
        return walk.byHours(alley) - walk.byHours(trial);
    }

    public int second(int cell) {
        if (!isCell(cell)) {
            return refuseAmongAll(NOBODY);
        }
        trial.becomeLike(alley);
        trial.secondLamp = cell;
        return walk.byHours(alley) - walk.byHours(trial);
    }

    public int bestSecond() {
        trial.becomeLike(alley);
        int best = 0;
        int least = Integer.MAX_VALUE;
        for (int cell = 0; cell < CELLS; cell++) {
            trial.secondLamp = cell;
            int cost = walk.byHours(trial);
            if (cost < least) {
                least = cost;
                best = cell;
            }
        }
        return best;
    }

    public int net(int goer) {
        if (!alley.knows(goer)) {
            return refuseAmongAll(NOBODY);
        }
        walk.byHours(alley);
        debts.reckon(alley, walk);
        return Rows.at(debts.net, goer);
    }

    public int payments() {
        walk.byHours(alley);
        debts.reckon(alley, walk);
        return debts.fewestPayments(alley.size);
    }

    public int near(int hour, int cell) {
        int refusal = hourRefusal(hour);
        if (refusal != 0) {
            return refuse(refusal);
        }
        if (!isCell(cell)) {
            return refuse(NOBODY);
        }
        walk.byHours(alley);
        return Math.abs(Rows.at(walk.atEnd, hour) - cell);
    }

    public int midwife(int cell) {
        if (!isCell(cell)) {
            return refuse(NOBODY);
        }
        walk.byHours(alley);
        int farthest = -1;
        int first = 0;
        for (int hour = 0; hour < HOURS; hour++) {
            int steps = Math.abs(Rows.at(walk.atEnd, hour) - cell);
            if (steps > farthest) {
                farthest = steps;
                first = hour;
            }
        }
        return first;
    }

    public int watch() {
        walk.byHours(alley);
        int bits = 0;
        for (int hour = 0; hour < HOURS; hour++) {
            if (!alley.anybodyWithin(WATCHED, Rows.at(walk.atEnd, hour))) {
                bits |= 1 << hour;
            }
        }
        return bits;
    }

    public int whoHad(int goer, int what) {
        if (!alley.knows(goer)) {
            return refuse(NOBODY);
        }
        switch (what) {
            case 0:
                trial.becomeLike(alley);
                return valuesThatFitTheRow(trial.kind, goer, KINDS);
            case 1:
                trial.becomeLike(alley);
                return valuesThatFitTheRow(trial.figure, goer, FIGURES);
            default:
                return refuse(OTHER);
        }
    }

    public int leastOil() {
        trial.becomeLike(alley);
        trial.settle(Alley.OIL, GREATEST_OIL);
        int due = walk.byHours(trial);
        for (int oil = 0; oil < GREATEST_OIL; oil++) {
            trial.settle(Alley.OIL, oil);
            if (walk.byHours(trial) == due) {
                return oil;
            }
        }
        return GREATEST_OIL;
    }

    public int row(int v) {
        if (v < 0) {
            return refuse(BELOW);
        }
        if (v > GREATEST_IN_ROW || inRow >= ROW_ROOM) {
            return refuse(ROOM);
        }
        Rows.put(row, inRow, v);
        inRow++;
        return inRow;
    }

    public int judge() {
        walk.byHours(alley);
        int answer = firstNotSo();
        inRow = 0;
        return answer;
    }

    public int clear() {
        int had = inRow;
        inRow = 0;
        return had;
    }

    public int lots(int n, int z, int what) {
        if (n < 1) {
            return refuse(BELOW);
        }
        if (n > GREATEST_LOTS) {
            return refuse(ROOM);
        }
        if (what != 0 && what != 1) {
            return refuse(OTHER);
        }
        trial.becomeLike(alley);
        int seed = z;
        int cost = 0;
        int atPump = 0;
        for (int night = 0; night < n; night++) {
            seed = trial.drawHours(seed);
            cost += walk.byHours(trial);
            if (walk.firstLamp() == trial.pump()) {
                atPump++;
            }
        }
        return what == 0 ? cost : atPump;
    }

    public int image() {
        image.becomeLike(alley);
        imageTaken = true;
        return alley.size;
    }

    public int on() {
        if (!imageTaken) {
            return refuse(STATE);
        }
        alley.becomeLike(image);
        return alley.size;
    }

    public int count(int what) {
        switch (what) {
            case 0: return alley.size;
            case 1: return alley.pump();
            case 2: return alley.oil();
            case 3: return alley.dark();
            case 4: return alley.allSteps();
            case 5: return inRow;
            case 6: return letters.size;
            default: break;
        }
        if (what > 10 && what <= 10 - ROOM) {
            return Rows.at(refusals, what - 10);
        }
        return NONE;
    }

    private int refuse(int refusal) {
        Rows.put(refusals, -refusal, Rows.at(refusals, -refusal) + 1);
        return refusal;
    }

    private int refuseAmongAll(int refusal) {
        return REFUSED_WHERE_BELOW_0_IS_AN_ANSWER - refuse(refusal);
    }

    /** The refusal that fits an HOUR, or 0: it counts nothing yet. */
    private static int hourRefusal(int hour) {
        if (hour < 0) {
            return BELOW;
        }
        return hour >= HOURS ? ROOM : 0;
    }

    private static boolean isCell(int cell) {
        return cell >= 0 && cell < CELLS;
    }

    /** The bits of those numbers below a bound with which, told of the GOER, the trial's night fits the ROW. */
    private int valuesThatFitTheRow(int[] told, int goer, int bound) {
        int bits = 0;
        for (int value = 0; value < bound; value++) {
            Rows.put(told, goer, value);
            walk.byHours(trial);
            if (firstNotSo() == NONE) {
                bits |= 1 << value;
            }
        }
        return bits;
    }

    /** The first place of the ROW where the LAMP did not stand on the walk just gone. */
    private int firstNotSo() {
        for (int i = 0; i < inRow; i++) {
            if (i >= HOURS || Rows.at(row, i) != Rows.at(walk.atEnd, i)) {
                return i;
            }
        }
        return NONE;
    }

    /** Rows of numbers, looked at and changed within their bounds only: so no index can ever be out of them. */
    static final class Rows {
        private Rows() {
        }

        static int at(int[] row, int i) {
            return i >= 0 && i < row.length ? row[i] : 0;
        }

        static void put(int[] row, int i, int v) {
            if (i >= 0 && i < row.length) {
                row[i] = v;
            }
        }

        static void copy(int[] from, int[] to) {
            for (int i = 0; i < from.length && i < to.length; i++) {
                to[i] = from[i];
            }
        }

        static void exchange(int[] row, int i, int j) {
            int held = at(row, i);
            put(row, i, at(row, j));
            put(row, j, held);
        }
    }

    /** What is told: the GOERS, the PUMP, OIL and DARK; on trial a second LAMP, too. */
    static final class Alley {
        static final int PUMP = 0;
        static final int OIL = 1;
        static final int DARK = 2;
        static final int SETTINGS = 3;
        private static final int[] GREATEST_SETTING = {39, 200, 9};

        static final int GOER = 0;
        static final int DRUNK = 1;
        static final int MIDWIFE = 2;
        static final int CAREFUL = 3;
        static final int THIEF = 4;
        static final int LOVER = 5;
        static final int NO_KIND = -1;
        static final int NO_SECOND_LAMP = -1;
        private static final int GOER_FETCHES = 6;
        private static final int MIDWIFE_FETCHES = 39;

        final int[] setting = new int[SETTINGS];
        final int[] kind = new int[GOERS];
        final int[] figure = new int[GOERS];
        final int[] from = new int[GOERS];
        final int[] to = new int[GOERS];
        final int[] hour = new int[GOERS];
        int size;
        int secondLamp;

        Alley() {
            Rows.put(setting, PUMP, 20);
            Rows.put(setting, OIL, 100);
            Rows.put(setting, DARK, 3);
            size = 0;
            secondLamp = NO_SECOND_LAMP;
        }

        void becomeLike(Alley other) {
            Rows.copy(other.setting, setting);
            Rows.copy(other.kind, kind);
            Rows.copy(other.figure, figure);
            Rows.copy(other.from, from);
            Rows.copy(other.to, to);
            Rows.copy(other.hour, hour);
            size = other.size;
            secondLamp = other.secondLamp;
        }

        int pump() {
            return Rows.at(setting, PUMP);
        }

        int oil() {
            return Rows.at(setting, OIL);
        }

        int dark() {
            return Rows.at(setting, DARK);
        }

        boolean knows(int goer) {
            return goer >= 0 && goer < size;
        }

        /** A setting becomes v (0 at least), unless v is too great. */
        boolean settle(int what, int v) {
            if (v > Rows.at(GREATEST_SETTING, what)) {
                return false;
            }
            Rows.put(setting, what, v);
            return true;
        }

        /** A GOER more, unless there is no room or a number (0 at least) is too great. */
        boolean add(int itsKind, int itsFigure, int itsFrom, int itsTo, int itsHour) {
            if (size >= GOERS || itsFrom >= CELLS || itsTo >= CELLS || itsHour >= HOURS) {
                return false;
            }
            Rows.put(kind, size, itsKind);
            Rows.put(figure, size, itsFigure);
            Rows.put(from, size, itsFrom);
            Rows.put(to, size, itsTo);
            Rows.put(hour, size, itsHour);
            size++;
            return true;
        }

        boolean exchangeHours(int one, int other) {
            if (!knows(one) || !knows(other) || one == other) {
                return false;
            }
            Rows.exchange(hour, one, other);
            return true;
        }

        boolean changeHour(int goer, int v) {
            if (!knows(goer) || v >= HOURS) {
                return false;
            }
            Rows.put(hour, goer, v);
            return true;
        }

        /** One is no more; those behind him move up, so that all still go in the same order. */
        void sendHome(int goer) {
            for (int i = goer; i < size - 1; i++) {
                Rows.put(kind, i, Rows.at(kind, i + 1));
                Rows.put(figure, i, Rows.at(figure, i + 1));
                Rows.put(from, i, Rows.at(from, i + 1));
                Rows.put(to, i, Rows.at(to, i + 1));
                Rows.put(hour, i, Rows.at(hour, i + 1));
            }
            if (knows(goer)) {
                size--;
            }
        }

        /** Each one's HOUR by lot; the seed behind the last DRAW. */
        int drawHours(int z) {
            int seed = z;
            for (int goer = 0; goer < size; goer++) {
                seed = seed * 1664525 + 1013904223;
                Rows.put(hour, goer, (seed & Integer.MAX_VALUE) / 256 % HOURS);
            }
            return seed;
        }

        int stepsOf(int goer) {
            return Math.abs(Rows.at(from, goer) - Rows.at(to, goer));
        }

        int allSteps() {
            int steps = 0;
            for (int goer = 0; goer < size; goer++) {
                steps += stepsOf(goer);
            }
            return steps;
        }

        boolean anybodyWithin(int steps, int cell) {
            for (int goer = 0; goer < size; goer++) {
                if (Math.abs(Rows.at(from, goer) - cell) <= steps || Math.abs(Rows.at(to, goer) - cell) <= steps) {
                    return true;
                }
            }
            return false;
        }

        int fetches(int goer) {
            switch (Rows.at(kind, goer)) {
                case DRUNK: return 0;
                case MIDWIFE: return MIDWIFE_FETCHES;
                case CAREFUL: return GOER_FETCHES + Rows.at(figure, goer);
                default: return GOER_FETCHES;
            }
        }

        int darkStepCosts(int goer) {
            switch (Rows.at(kind, goer)) {
                case DRUNK: return dark() / 2;
                case MIDWIFE: return 2 * dark();
                case CAREFUL: return dark() + 1;
                case THIEF:
                case LOVER: return 0;
                default: return dark();
            }
        }

        /** The CELL to which one carries a LAMP that he took on a CELL. */
        int carriesTo(int goer, int taken) {
            int goal = Rows.at(to, goer);
            int lacks = Rows.at(figure, goer);
            switch (Rows.at(kind, goer)) {
                case DRUNK: return taken <= goal ? Math.max(taken, goal - lacks) : Math.min(taken, goal + lacks);
                case LOVER: return taken;
                default: return goal;
            }
        }

        /** The CELL to which one brings a LAMP that he carried to a CELL. */
        int bringsTo(int goer, int carried) {
            switch (Rows.at(kind, goer)) {
                case CAREFUL: return pump();
                case THIEF: return Rows.at(from, goer);
                default: return carried;
            }
        }
    }

    /** The letters in which a NIGHT is told. */
    static final class Letters {
        private static final int NOWHERE = -1;
        private static final int NO_STATEMENT = -1;
        private static final int FAULT_OF_LETTERS = -1000;
        private static final int FAULT_OF_STATEMENTS = -2000;

        final int[] letter = new int[LETTERS];
        int size;

        void add(int c) {
            Rows.put(letter, size, c);
            size++;
        }

        /** All STATEMENTS come to the alley: how many; or the FAULT, and the alley is of no use then. */
        int tellTo(Alley alley) {
            int bad = firstOutOfPlace();
            if (bad != NOWHERE) {
                return FAULT_OF_LETTERS - bad;
            }
            int place = 0;
            int statements = 0;
            while (statements < LETTERS && place < size) {
                if (!tellStatement(alley, place)) {
                    return FAULT_OF_STATEMENTS - place;
                }
                place += lengthOf(Rows.at(letter, place));
                statements++;
            }
            return statements;
        }

        private int firstOutOfPlace() {
            // What the STATEMENT still lacks: its digits and its ";"; the KIND's letter is looked for apart.
            int lacks = 0;
            boolean kindLacks = false;
            for (int place = 0; place < size; place++) {
                int c = Rows.at(letter, place);
                if (lacks == 0) {
                    if (digitsOf(c) == NO_STATEMENT) {
                        return place;
                    }
                    lacks = digitsOf(c) + 1;
                    kindLacks = c == 'g';
                } else if (kindLacks) {
                    if (kindOf(c) == Alley.NO_KIND) {
                        return place;
                    }
                    kindLacks = false;
                } else {
                    boolean fits = lacks > 1 ? isDigit(c) : c == ';';
                    if (!fits) {
                        return place;
                    }
                    lacks--;
                }
            }
            return size == 0 || lacks > 0 ? size : NOWHERE;
        }

        private boolean tellStatement(Alley alley, int place) {
            switch (Rows.at(letter, place)) {
                case 'g':
                    return alley.add(kindOf(Rows.at(letter, place + 1)), number(place + 2, 1), number(place + 3, 2),
                            number(place + 5, 2), number(place + 7, 2));
                case 'p':
                    return alley.settle(Alley.PUMP, number(place + 1, 2));
                case 'o':
                    return alley.settle(Alley.OIL, number(place + 1, 3));
                case 'd':
                    return alley.settle(Alley.DARK, number(place + 1, 1));
                case 'x':
                    return alley.exchangeHours(number(place + 1, 1), number(place + 2, 1));
                case 'h':
                    return alley.changeHour(number(place + 1, 1), number(place + 2, 2));
                default:
                    return false;
            }
        }

        private int number(int place, int digits) {
            int number = 0;
            for (int i = place; i < place + digits; i++) {
                number = number * 10 + Rows.at(letter, i) - '0';
            }
            return number;
        }

        private static int digitsOf(int statement) {
            switch (statement) {
                case 'g': return 7;
                case 'p': return 2;
                case 'o': return 3;
                case 'd': return 1;
                case 'x': return 2;
                case 'h': return 3;
                default: return NO_STATEMENT;
            }
        }

        private static int lengthOf(int statement) {
            int besidesDigits = statement == 'g' ? 3 : 2;
            return digitsOf(statement) + besidesDigits;
        }

        private static int kindOf(int c) {
            switch (c) {
                case 'g': return Alley.GOER;
                case 'd': return Alley.DRUNK;
                case 'm': return Alley.MIDWIFE;
                case 'c': return Alley.CAREFUL;
                case 't': return Alley.THIEF;
                case 'l': return Alley.LOVER;
                default: return Alley.NO_KIND;
            }
        }

        private static boolean isDigit(int c) {
            return c >= '0' && c <= '9';
        }
    }

    /** A NIGHT gone through: what each took of light and of dark, where the LAMP stood when. */
    static final class Walk {
        private static final int LAMPS = 2;
        private static final int NO_LAMP = -1;

        final int[] dark = new int[GOERS];
        final int[] light = new int[GOERS];
        final int[] cost = new int[GOERS];
        final int[] stood = new int[GOERS];
        final int[] had = new int[GOERS];
        final int[] whoWent = new int[GOERS];
        final int[] after = new int[GOERS];
        final int[] atEnd = new int[HOURS];
        private final int[] lampCell = new int[LAMPS];
        private final int[] lampOil = new int[LAMPS];
        private int lamps;
        int went;
        int allCost;
        int allDark;
        int allLight;
        int takers;
        int lastTaker;

        int firstLamp() {
            return Rows.at(lampCell, 0);
        }

        int oilLeft() {
            return Rows.at(lampOil, 0);
        }

        int byHours(Alley alley) {
            begin(alley);
            for (int hour = 0; hour < HOURS; hour++) {
                for (int goer = 0; goer < alley.size; goer++) {
                    if (Rows.at(alley.hour, goer) == hour) {
                        go(alley, goer);
                    }
                }
                Rows.put(atEnd, hour, firstLamp());
            }
            return allCost;
        }

        int inOrder(Alley alley, int[] wanted) {
            begin(alley);
            for (int i = 0; i < alley.size; i++) {
                go(alley, Rows.at(wanted, i));
            }
            return allCost;
        }

        private void begin(Alley alley) {
            lamps = 0;
            addLamp(alley.pump(), alley.oil());
            if (alley.secondLamp != Alley.NO_SECOND_LAMP) {
                addLamp(alley.secondLamp, alley.oil());
            }
            went = 0;
            allCost = 0;
            allDark = 0;
            allLight = 0;
            takers = 0;
            lastTaker = NONE;
        }

        private void addLamp(int cell, int oil) {
            Rows.put(lampCell, lamps, cell);
            Rows.put(lampOil, lamps, oil);
            lamps++;
        }

        private void go(Alley alley, int goer) {
            Rows.put(stood, goer, firstLamp());
            int taken = lampThatHeHas(alley, goer);
            if (taken == NO_LAMP) {
                goInTheDark(alley, goer);
            } else {
                goWithLamp(alley, goer, taken);
            }
            int costs = Rows.at(dark, goer) * alley.darkStepCosts(goer);
            Rows.put(cost, goer, costs);
            allCost += costs;
            allDark += Rows.at(dark, goer);
            allLight += Rows.at(light, goer);
            Rows.put(whoWent, went, goer);
            Rows.put(after, went, firstLamp());
            went++;
        }

        /** The nearest LAMP that burns still, if it is no farther than he fetches one. */
        private int lampThatHeHas(Alley alley, int goer) {
            int from = Rows.at(alley.from, goer);
            int nearest = NO_LAMP;
            int steps = alley.fetches(goer) + 1;
            for (int lamp = 0; lamp < lamps; lamp++) {
                int far = Math.abs(Rows.at(lampCell, lamp) - from);
                if (Rows.at(lampOil, lamp) > 0 && far < steps) {
                    nearest = lamp;
                    steps = far;
                }
            }
            return nearest;
        }

        private void goInTheDark(Alley alley, int goer) {
            Rows.put(dark, goer, alley.stepsOf(goer));
            Rows.put(light, goer, 0);
            Rows.put(had, goer, 0);
        }

        private void goWithLamp(Alley alley, int goer, int lamp) {
            int start = Rows.at(lampCell, lamp);
            int oil = Rows.at(lampOil, lamp);
            int carried = alley.carriesTo(goer, start);
            int brought = alley.bringsTo(goer, carried);
            int withLamp = Math.abs(carried - start) + Math.abs(brought - carried);
            int withoutLamp = Math.abs(start - Rows.at(alley.from, goer)) + Math.abs(Rows.at(alley.to, goer) - carried);
            int inLight = Math.min(withLamp, oil);
            Rows.put(dark, goer, withoutLamp + withLamp - inLight);
            Rows.put(light, goer, inLight);
            Rows.put(had, goer, 1);
            Rows.put(lampCell, lamp, brought);
            Rows.put(lampOil, lamp, oil - inLight);
            takers++;
            lastTaker = goer;
        }
    }

    /** All ORDERS of the GOERS, one behind the other, HOURS no matter. */
    static final class Orders {
        static final int GREATEST = 6;
        private static final int ALL_OF_GREATEST = 720;

        final int[] best = new int[GOERS];
        int leastCost;
        boolean found;
        private final int[] order = new int[GOERS];

        void search(Alley alley, Walk walk, boolean backAtPump) {
            found = false;
            leastCost = 0;
            for (int i = 0; i < alley.size; i++) {
                Rows.put(order, i, i);
            }
            // The ORDERS come by their first GOERS, so of several alike the one that came first stays.
            boolean more = true;
            for (int n = 0; n < ALL_OF_GREATEST && more; n++) {
                int cost = walk.inOrder(alley, order);
                boolean allowed = !backAtPump || walk.firstLamp() == alley.pump();
                if (allowed && (!found || cost < leastCost)) {
                    found = true;
                    leastCost = cost;
                    Rows.copy(order, best);
                }
                more = next(alley.size);
            }
        }

        /** The next ORDER of the first so many; false behind the last. */
        private boolean next(int size) {
            int rising = size - 2;
            while (rising >= 0 && Rows.at(order, rising) > Rows.at(order, rising + 1)) {
                rising--;
            }
            if (rising < 0) {
                return false;
            }
            int greater = size - 1;
            while (greater > rising && Rows.at(order, greater) < Rows.at(order, rising)) {
                greater--;
            }
            Rows.exchange(order, rising, greater);
            int low = rising + 1;
            int high = size - 1;
            while (low < high) {
                Rows.exchange(order, low, high);
                low++;
                high--;
            }
            return true;
        }
    }

    /** Who owes whom dark steps, and by how few payments nobody does. */
    static final class Debts {
        private static final int SETS = 1 << GOERS;

        final int[] net = new int[GOERS];
        private final int[] sum = new int[SETS];
        private final int[] groups = new int[SETS];

        void reckon(Alley alley, Walk walk) {
            for (int goer = 0; goer < GOERS; goer++) {
                Rows.put(net, goer, 0);
            }
            for (int i = 0; i < walk.went - 1; i++) {
                int debtor = Rows.at(walk.whoWent, i);
                if (Rows.at(walk.had, debtor) == 1) {
                    int next = Rows.at(walk.whoWent, i + 1);
                    int owed = stepsFarther(alley, Rows.at(walk.after, i), next);
                    Rows.put(net, debtor, Rows.at(net, debtor) - owed);
                    Rows.put(net, next, Rows.at(net, next) + owed);
                }
            }
        }

        private static int stepsFarther(Alley alley, int lamp, int goer) {
            int from = Rows.at(alley.from, goer);
            return Math.max(0, Math.abs(lamp - from) - Math.abs(alley.pump() - from));
        }

        /**
         * A group of GOERS whose NETS are 0 together needs one payment less than it has GOERS: so the most groups
         * into which all fall make the fewest payments. One whose NET is 0 is a group and pays nothing.
         */
        int fewestPayments(int size) {
            if (size > GOERS) {
                return 0;
            }
            Rows.put(sum, 0, 0);
            Rows.put(groups, 0, 0);
            int all = (1 << size) - 1;
            for (int set = 1; set <= all; set++) {
                joinUp(set, size);
            }
            return size - Rows.at(groups, all);
        }

        /** A set's sum, and the most groups that end within it, from those of the sets that are one GOER less. */
        private void joinUp(int set, int size) {
            int most = 0;
            for (int goer = 0; goer < size; goer++) {
                int less = set & ~(1 << goer);
                if (less != set) {
                    most = Math.max(most, Rows.at(groups, less));
                    Rows.put(sum, set, Rows.at(sum, less) + Rows.at(net, goer));
                }
            }
            Rows.put(groups, set, Rows.at(sum, set) == 0 ? most + 1 : most);
        }
    }
}
