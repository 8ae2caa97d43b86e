/** A ministry told as a text: officers, feelings, and the carbons by which feelings go from one to another. */
public final class CarbonMinistry {
    public static final int NONE = -1;
    public static final long NOTHING = -1000000000000000L;

    private static final int OFFICERS = 8;
    private static final int FEELINGS = 4;
    private static final int CARBONS = 12;
    private static final int STATEMENTS = 60;
    private static final int LETTERS = 6;
    private static final int DIGITS = 4;
    private static final int OPEN = 6;
    private static final int TAPE = 1600;
    private static final int LAST_DAY = 999;
    private static final int DAYS_AHEAD = 60;
    private static final int DAYS_FOUND = 30;
    private static final int DAYS_TURNING = 20;
    private static final int DAYS_AT_ONCE = 100;
    private static final int FOUND_ROWS = 16;
    private static final int FELT_MOST = 99;
    private static final int STRENGTHS = 100;
    private static final int KEPT = 40;
    private static final int UNDOABLE = 20;
    private static final int HELD = 1000000;

    // The sorts of law, by which words a PART may be.
    private static final int PASSES = 0;
    private static final int FADES = 1;
    private static final int ACTS = 2;
    private static final int QUESTION = 3;

    // The refusals that status() counts.
    private static final int OF_TAPE = 0;
    private static final int OF_TEXT = 1;
    private static final int OF_ONE_THING = 2;
    private static final int OF_DAYS = 3;
    private static final int OF_UNDO = 4;
    private static final int OF_SEED_OR_IMAGE = 5;
    private static final int REFUSALS = 6;

    private final Text text = new Text();
    private Plan spare = new Plan();
    private final Clerk clerk = new Clerk(text, spare);
    private final State now = new State();
    private final State then = new State();
    private final Engine engine = new Engine(new Plan());
    private final History history = new History();
    private final Roads roads = new Roads(engine, now);
    private final Finder finder = new Finder(engine, now);
    private final Asker asker = new Asker(text, engine, now, roads);
    private final int[] image = new int[2 + 2 * CARBONS + OFFICERS * FEELINGS + 1];
    private int imageSize = 0;
    private final int[] refused = new int[REFUSALS];
    private int seed = 1;

    public CarbonMinistry() {
    }

    // ---- the tape and the ministry

    public int feed(int a, int b, int c, int d, int e) {
        if (text.size + 20 > TAPE) {
            return refuse(OF_TAPE);
        }
        text.append(a);
        text.append(b);
        text.append(c);
        text.append(d);
        text.append(e);
        return text.size;
    }

    public boolean end(int n) {
        if (n < 0 || n > text.size) {
            return refused(OF_TAPE);
        }
        text.size = n;
        return true;
    }

    public int ministry() {
        boolean well = clerk.readAll(spare);
        text.size = 0;
        if (!well) {
            return refuse(OF_TEXT);
        }
        Plan old = engine.plan;
        engine.use(spare);
        spare = old;
        now.begin(engine.plan);
        history.clear();
        finder.rows = 0;
        finder.forget();
        return engine.plan.statements;
    }

    public int fault(int what) {
        switch (what) {
            case 0: return text.fault;
            case 1: return text.place;
            default: return NONE;
        }
    }

    public int has(int what) {
        switch (what) {
            case 0: return engine.plan.officers;
            case 1: return engine.plan.feelings;
            case 2: return engine.plan.carbons;
            case 3: return now.day;
            case 4: return Integer.bitCount(now.in);
            case 5: return Integer.bitCount(now.turned);
            case 6: return allStrengths();
            case 7: return now.told();
            case 8: return finder.rows;
            case 9: return history.count;
            default: return NONE;
        }
    }

    private int allStrengths() {
        int all = 0;
        for (int feeling = 0; feeling < FEELINGS; feeling++) {
            for (int officer = 0; officer < OFFICERS; officer++) {
                all += now.strength(officer, feeling);
            }
        }
        return all;
    }

    public int letter(int kind, int which, int k) {
        if (k < 0 || k >= LETTERS) {
            return NONE;
        }
        int shift = 5 * (LETTERS - 1 - k);
        if (kind == 0 && isOfficer(which)) {
            return engine.plan.officerName[which] >> shift & 31;
        }
        if (kind == 1 && isFeeling(which)) {
            return engine.plan.feelingName[which] >> shift & 31;
        }
        return NONE;
    }

    public int officer(int officer, int what) {
        if (!isOfficer(officer)) {
            return NONE;
        }
        switch (what) {
            case 0: return engine.plan.shape[officer];
            case 1: return engine.plan.press[officer];
            case 2: return roads.countTo(officer);
            case 3: return roads.countFrom(officer);
            default: return NONE;
        }
    }

    public int carbon(int carbon, int what) {
        if (!isCarbon(carbon)) {
            return NONE;
        }
        switch (what) {
            case 0: return engine.plan.from[carbon];
            case 1: return engine.plan.to[carbon];
            case 2: return engine.plan.sheets[carbon];
            case 3: return now.in >> carbon & 1;
            case 4: return now.turned >> carbon & 1;
            default: return NONE;
        }
    }

    public int feels(int officer, int feeling) {
        if (!isOfficer(officer) || !isFeeling(feeling)) {
            return NONE;
        }
        return now.strength(officer, feeling);
    }

    public int passes(int carbon, int feeling) {
        if (!isCarbon(carbon) || !isFeeling(feeling)) {
            return NONE;
        }
        if ((now.in >> carbon & 1) == 0) {
            return 0;
        }
        int strength = now.strength(engine.giver(carbon, now.turned), feeling);
        engine.openDay(now.day);
        return strength == 0 ? 0 : engine.passed(carbon, now.turned >> carbon & 1, strength);
    }

    public int kept(int k, int what) {
        if (k < 0 || k >= now.told()) {
            return NONE;
        }
        return now.keptPart(k, what);
    }

    // ---- ahead

    public int later(int officer, int feeling, int n) {
        if (!isOfficer(officer) || !isFeeling(feeling) || !comes(n, DAYS_AHEAD)) {
            return NONE;
        }
        flowAhead(n);
        return then.strength(officer, feeling);
    }

    public int settles() {
        flowAhead(0);
        for (int k = 0; k < DAYS_AHEAD && comes(k + 1, DAYS_AHEAD); k++) {
            if (!engine.flow(then)) {
                return k;
            }
        }
        return NONE;
    }

    public int strongest(int feeling, int n) {
        if (!isFeeling(feeling) || !comes(n, DAYS_AHEAD)) {
            return NONE;
        }
        flowAhead(n);
        int best = NONE;
        int most = 0;
        for (int officer = 0; officer < engine.plan.officers; officer++) {
            int strength = then.strength(officer, feeling);
            if (strength > most) {
                most = strength;
                best = officer;
            }
        }
        return best;
    }

    public int acted(int n) {
        if (!comes(n, DAYS_AHEAD)) {
            return NONE;
        }
        then.copyWorld(now);
        int all = 0;
        for (int k = 0; k < n; k++) {
            all += engine.wholeDay(then);
        }
        return all;
    }

    /** Whether n more DAYS, not more than most, stay within DAY 999. */
    private boolean comes(int n, int most) {
        return n >= 0 && n <= most && now.day + n <= LAST_DAY;
    }

    private void flowAhead(int n) {
        then.copyWorld(now);
        for (int k = 0; k < n; k++) {
            engine.flow(then);
        }
    }

    // ---- carbons

    public int turning(int officer, int feeling, int strength, int n) {
        if (!isOfficer(officer) || !isFeeling(feeling) || !comes(n, DAYS_TURNING)) {
            return NONE;
        }
        if (strength < 1 || strength > FELT_MOST) {
            return NONE;
        }
        return roads.fewestTurns(officer, feeling, strength, n);
    }

    public int steps(int from, int to) {
        if (!isOfficer(from) || !isOfficer(to)) {
            return NONE;
        }
        roads.measure(from);
        return roads.far[to];
    }

    public int cutting(int from, int to) {
        if (!isOfficer(from) || !isOfficer(to) || from == to) {
            return NONE;
        }
        return roads.fewestCut(from, to);
    }

    // ---- who felt it first

    public int discover() {
        boolean well = finder.learn(text);
        text.size = 0;
        if (!well) {
            return refuse(OF_TEXT);
        }
        return finder.rows;
    }

    public int sources(int feeling, int k) {
        if (!isFeeling(feeling)) {
            return NONE;
        }
        finder.search();
        if (k == NONE) {
            return finder.count;
        }
        return k >= 0 && k < finder.count ? finder.source[k] : NONE;
    }

    public int tells(int feeling, int what) {
        if (!isFeeling(feeling)) {
            return NONE;
        }
        finder.search();
        if (!finder.weigh()) {
            return NONE;
        }
        switch (what) {
            case 0: return finder.tellingDay;
            case 1: return finder.tellingOfficer;
            case 2: return finder.tellingLeft;
            default: return NONE;
        }
    }

    // ---- acts

    public boolean put(int officer, int feeling, int strength) {
        if (!isOfficer(officer) || !isFeeling(feeling) || strength < 0 || strength > FELT_MOST) {
            return refused(OF_ONE_THING);
        }
        if (now.strength(officer, feeling) == strength) {
            return refused(OF_ONE_THING);
        }
        beginAct();
        now.setStrength(officer, feeling, strength);
        return true;
    }

    public boolean turn(int carbon, int on) {
        if (!isCarbon(carbon) || on < 0 || on > 1 || (now.turned >> carbon & 1) == on) {
            return refused(OF_ONE_THING);
        }
        beginAct();
        now.turned ^= 1 << carbon;
        return true;
    }

    public boolean pull(int carbon, int on) {
        if (!isCarbon(carbon) || on < 0 || on > 1 || (now.in >> carbon & 1) == on) {
            return refused(OF_ONE_THING);
        }
        beginAct();
        now.in ^= 1 << carbon;
        return true;
    }

    public int days(int n) {
        if (n < 1 || !comes(n, DAYS_AT_ONCE)) {
            return refuse(OF_DAYS);
        }
        beginAct();
        int all = 0;
        for (int k = 0; k < n; k++) {
            all += engine.wholeDay(now);
        }
        return all;
    }

    public int chance(int n) {
        if (n < 1 || !comes(n, DAYS_AT_ONCE)) {
            return refuse(OF_DAYS);
        }
        beginAct();
        int slips = 0;
        for (int k = 0; k < n; k++) {
            if (slipsNow()) {
                slips++;
            }
            engine.wholeDay(now);
        }
        return slips;
    }

    private boolean slipsNow() {
        int carbons = engine.plan.carbons;
        if (draw(100) >= engine.plan.slip || carbons <= 0) {
            return false;
        }
        now.turned ^= 1 << draw(carbons);
        return true;
    }

    private int draw(int m) {
        long next = 1103515245L * seed + 12345L & 2147483647L;
        seed = (int) next;
        return m > 0 ? seed / 64 % m : 0;
    }

    public boolean undo() {
        if (!history.takeBack(now)) {
            return refused(OF_UNDO);
        }
        finder.forget();
        return true;
    }

    public boolean seed(int seed) {
        if (seed < 0) {
            return refused(OF_SEED_OR_IMAGE);
        }
        this.seed = seed;
        return true;
    }

    private void beginAct() {
        history.remember(now);
        finder.forget();
    }

    // ---- questions

    public long ask() {
        long answer = asker.answer();
        text.size = 0;
        return answer;
    }

    // ---- images, refusals

    public int image() {
        Plan plan = engine.plan;
        imageSize = 0;
        addToImage(now.day >> 8);
        addToImage(now.day & 255);
        for (int carbon = 0; carbon < plan.carbons; carbon++) {
            addToImage(now.in >> carbon & 1);
            addToImage(now.turned >> carbon & 1);
        }
        for (int officer = 0; officer < plan.officers; officer++) {
            for (int feeling = 0; feeling < plan.feelings; feeling++) {
                addToImage(now.strength(officer, feeling));
            }
        }
        int check = 241;
        for (int k = 0; k < imageSize; k++) {
            check = (3 * check + image[k]) % 251;
        }
        addToImage(check);
        return imageSize;
    }

    private void addToImage(int octet) {
        if (imageSize < image.length) {
            image[imageSize] = octet;
            imageSize++;
        }
    }

    public int octet(int k) {
        return k >= 0 && k < imageSize ? image[k] : NONE;
    }

    public boolean on() {
        boolean well = isImage();
        if (well) {
            takeImage();
        }
        text.size = 0;
        return well || refused(OF_SEED_OR_IMAGE);
    }

    private boolean isImage() {
        Plan plan = engine.plan;
        int flags = 2 + 2 * plan.carbons;
        int last = flags + plan.officers * plan.feelings;
        if (text.size != last + 1 || 256 * text.octetAt(0) + text.octetAt(1) > LAST_DAY) {
            return false;
        }
        int check = 241;
        for (int k = 0; k < last; k++) {
            int octet = text.octetAt(k);
            if (k >= 2 && octet > (k < flags ? 1 : FELT_MOST)) {
                return false;
            }
            check = (3 * check + octet) % 251;
        }
        return check == text.octetAt(last);
    }

    private void takeImage() {
        Plan plan = engine.plan;
        now.clear();
        now.day = 256 * text.octetAt(0) + text.octetAt(1);
        int k = 2;
        for (int carbon = 0; carbon < plan.carbons; carbon++) {
            now.in |= text.octetAt(k) << carbon;
            now.turned |= text.octetAt(k + 1) << carbon;
            k += 2;
        }
        for (int officer = 0; officer < plan.officers; officer++) {
            for (int feeling = 0; feeling < plan.feelings; feeling++) {
                now.setStrength(officer, feeling, text.octetAt(k));
                k++;
            }
        }
        history.clear();
        finder.forget();
    }

    public int status(int what) {
        return what >= 0 && what < REFUSALS ? refused[what] : NONE;
    }

    private int refuse(int what) {
        if (what >= 0 && what < REFUSALS) {
            refused[what]++;
        }
        return NONE;
    }

    private boolean refused(int what) {
        refuse(what);
        return false;
    }

    private boolean isOfficer(int officer) {
        return officer >= 0 && officer < engine.plan.officers;
    }

    private boolean isFeeling(int feeling) {
        return feeling >= 0 && feeling < engine.plan.feelings;
    }

    private boolean isCarbon(int carbon) {
        return carbon >= 0 && carbon < engine.plan.carbons;
    }

    /** How strongly an officer feels, by the strengths of all officers in one number, seven bits each. */
    private static int strengthIn(long felt, int officer) {
        return (int) (felt >>> 7 * officer) & 127;
    }

    private static long packed(int officer, int strength) {
        return (long) strength << 7 * officer;
    }

    /** The tape, read as words, numbers and signs, and the first fault met in it. */
    private static final class Text {
        // What stands at a place: one of these words, or something else, or SIGNS and the octet of a sign.
        static final int OFFICER = 0;
        static final int SHAPE = 1;
        static final int PRESS = 2;
        static final int FEELING = 3;
        static final int CARBON = 4;
        static final int TO = 5;
        static final int SHEETS = 6;
        static final int FELT = 7;
        static final int OF = 8;
        static final int IS = 9;
        static final int PASSES_WORD = 10;
        static final int FADES_WORD = 11;
        static final int ACTS_WORD = 12;
        static final int SLIP = 13;
        static final int STRENGTH = 14;
        static final int DAY = 15;
        static final int FEEL = 16;
        static final int NUMBER_WORD = 17;
        static final int FEELS = 18;
        static final int STEPS = 19;
        static final int OR = 20;
        static final int AND = 21;
        static final int NOT = 22;
        static final int ALL = 23;
        static final int MIN = 24;
        static final int MAX = 25;
        static final int OWN_WORDS = 26;
        static final int FIRST = 26;
        static final int LAST = 27;
        static final int OFTEN = 28;
        static final int TOTAL = 29;
        static final int MOST = 30;
        static final int LEAST = 31;
        static final int OTHER_WORD = 32;
        static final int NUMBER = 33;
        static final int GLUED = 34;
        static final int AT_END = 35;
        static final int SIGNS = 256;
        static final String WORDS = "officer shape press feeling carbon to sheets felt of is passes fades acts slip strength day feel number feels steps or and not all min max first last often total most least ";

        final int[] octets = new int[TAPE];
        int size = 0;
        // What stands there in ten bits, where it starts and where it stops in eleven each.
        private final int[] items = new int[TAPE + 1];
        private int count = 0;
        private int item = 0;
        int what = AT_END;
        int start = 0;
        int stop = 0;
        int fault = 0;
        int place = NONE;

        void append(int number) {
            for (int shift = 24; shift >= 0; shift -= 8) {
                if (size < TAPE) {
                    octets[size] = number >> shift & 255;
                    size++;
                }
            }
        }

        int octetAt(int k) {
            return k >= 0 && k < size ? octets[k] : NONE;
        }

        void beginReading() {
            fault = 0;
            place = NONE;
            count = 0;
            boolean beside = false;
            int at = 0;
            for (int k = 0; k < TAPE && at < size; k++) {
                int octet = octetAt(at);
                int behind = at + 1;
                if (isLetter(octet)) {
                    behind = endOfWord(at);
                    addItem(beside ? GLUED : wordOf(at, behind), at, behind);
                } else if (isDigit(octet)) {
                    behind = endOfNumber(at);
                    addItem(beside ? GLUED : NUMBER, at, behind);
                } else if (!isBlank(octet)) {
                    addItem(SIGNS + octet, at, behind);
                }
                beside = isLetter(octet) || isDigit(octet);
                at = behind;
            }
            addItem(AT_END, size, size);
            item = NONE;
            advance();
        }

        private void addItem(int what, int start, int stop) {
            if (count < items.length) {
                items[count] = what | start << 10 | stop << 21;
                count++;
            }
        }

        private int endOfWord(int from) {
            int at = from;
            while (at < size && isLetter(octetAt(at))) {
                at++;
            }
            return at;
        }

        private int endOfNumber(int from) {
            int at = from;
            while (at < size && isDigit(octetAt(at))) {
                at++;
            }
            return at;
        }

        private int wordOf(int from, int to) {
            int number = 0;
            int at = from;
            boolean same = true;
            for (int k = 0; k < WORDS.length(); k++) {
                char letter = WORDS.charAt(k);
                if (letter == ' ') {
                    if (same && at == to) {
                        return number;
                    }
                    number++;
                    at = from;
                    same = true;
                } else if (same) {
                    same = at < to && octetAt(at) == letter;
                    at++;
                }
            }
            return OTHER_WORD;
        }

        private static boolean isBlank(int octet) {
            return octet == 10 || octet == 32;
        }

        private static boolean isLetter(int octet) {
            return octet >= 'a' && octet <= 'z';
        }

        private static boolean isDigit(int octet) {
            return octet >= '0' && octet <= '9';
        }

        /** Goes on to what stands next; at the end it stays there. */
        void advance() {
            if (item + 1 < count) {
                item++;
                what = items[item] & 1023;
                start = items[item] >> 10 & 2047;
                stop = items[item] >>> 21;
            }
        }

        boolean isSign(char sign) {
            return what == SIGNS + sign;
        }

        boolean refuseAt(int which, int where) {
            fault = which;
            place = where;
            return false;
        }

        boolean unfit() {
            fault = 1;
            place = start;
            return false;
        }

        boolean takeWord(int word) {
            if (what != word) {
                return unfit();
            }
            advance();
            return true;
        }

        boolean takeSign(char sign) {
            if (what != SIGNS + sign) {
                return unfit();
            }
            advance();
            return true;
        }

        /** Goes over a sign or word that stays open; open tells how many are so already. */
        boolean takeOpening(int open) {
            if (open >= OPEN) {
                return refuseAt(4, start);
            }
            advance();
            return true;
        }

        /** The letters of the NAME here, five bits each, so that unlike NAMES are unlike numbers; does not go over it. */
        int nameHere() {
            if (what < OWN_WORDS || what > OTHER_WORD) {
                unfit();
                return NONE;
            }
            if (stop - start > LETTERS) {
                refuseAt(1, start + LETTERS);
                return NONE;
            }
            int name = 0;
            for (int k = 0; k < LETTERS; k++) {
                int letter = start + k < stop ? octetAt(start + k) - 'a' + 1 : 0;
                name = name << 5 | letter;
            }
            return name;
        }

        /** The number here, from least to most; NONE with a fault. */
        int takeNumber(int least, int most) {
            if (what != NUMBER) {
                unfit();
                return NONE;
            }
            if (stop - start > DIGITS) {
                refuseAt(1, start + DIGITS);
                return NONE;
            }
            int value = 0;
            for (int k = start; k < stop; k++) {
                value = 10 * value + octetAt(k) - '0';
            }
            if (value < least || value > most) {
                refuseAt(2, start);
                return NONE;
            }
            advance();
            return value;
        }
    }

    /** Laws as rows of numbers (0 and above), values (below 0) and signs that work on what stands ahead of them. */
    private static final class Code {
        static final int PRESS = -1;
        static final int SHAPE = -2;
        static final int DAY = -3;
        static final int STRENGTH = -4;
        static final int SHEETS = -5;
        static final int FEEL = -6;
        static final int FEELING = -7;
        static final int NUMBER = -8;
        static final int VALUES = 8;
        static final int NOT = -11;
        static final int FEELS = -12;
        static final int STEPS = -13;
        static final int PLUS = -21;
        static final int MINUS = -22;
        static final int TIMES = -23;
        static final int BY = -24;
        static final int MIN = -25;
        static final int MAX = -26;
        static final int BELOW = -27;
        static final int ABOVE = -28;
        static final int LIKE = -29;
        static final int AND = -30;
        static final int OR = -31;
        // Six open at once need some 24 places.
        static final int PLACES = 64;

        final int[] row = new int[TAPE + 16];
        int size = 0;
        final int[] values = new int[VALUES];
        final int[] felt = new int[FEELINGS];
        final int[] far = new int[OFFICERS];
        private final int[] places = new int[PLACES];

        boolean add(int item) {
            if (size >= row.length) {
                return false;
            }
            row[size] = item;
            size++;
            return true;
        }

        void set(int value, int to) {
            int k = -1 - value;
            if (k >= 0 && k < VALUES) {
                values[k] = to;
            }
        }

        int run(int from, int to) {
            int top = 0;
            int last = Math.min(to, size);
            for (int k = Math.max(from, 0); k < last; k++) {
                int item = row[k];
                if (item >= -VALUES) {
                    if (top < PLACES) {
                        places[top] = item >= 0 ? item : values[-1 - item];
                        top++;
                    }
                } else if (item > PLUS) {
                    if (top >= 1) {
                        places[top - 1] = ofOne(item, places[top - 1]);
                    }
                } else if (top >= 2) {
                    top--;
                    places[top - 1] = ofTwo(item, places[top - 1], places[top]);
                }
            }
            return top > 0 ? places[0] : 0;
        }

        private int ofOne(int sign, int a) {
            switch (sign) {
                case NOT: return 1 - a;
                case FEELS: return a >= 0 && a < FEELINGS ? felt[a] : 0;
                case STEPS: return a >= 0 && a < OFFICERS ? far[a] : NONE;
                default: return 0;
            }
        }

        private static int ofTwo(int sign, int a, int b) {
            switch (sign) {
                case PLUS: return held((long) a + b);
                case MINUS: return held((long) a - b);
                case TIMES: return held((long) a * b);
                case BY: return b == 0 ? 0 : Math.floorDiv(a, b);
                case MIN: return a < b ? a : b;
                case MAX: return a > b ? a : b;
                case BELOW: return a < b ? 1 : 0;
                case ABOVE: return a > b ? 1 : 0;
                case LIKE: return a == b ? 1 : 0;
                case AND: return a & b;
                case OR: return a | b;
                default: return 0;
            }
        }

        private static int held(long value) {
            return value > HELD ? HELD : value < -HELD ? -HELD : (int) value;
        }
    }

    /** Reads a TEST or a SUM into code. The argument open tells how many of ( [ not feels steps are open. */
    private static final class Grammar {
        private final Text text;
        private Code code;
        private int sort = PASSES;
        boolean namesDay = false;

        Grammar(Text text, Code code) {
            this.text = text;
            this.code = code;
        }

        void begin(Code code, int sort) {
            this.code = code;
            this.sort = sort;
            namesDay = false;
        }

        private boolean readTest(int open) {
            if (!readBoth(open)) {
                return false;
            }
            for (int k = 0; k < TAPE && text.what == Text.OR; k++) {
                text.advance();
                if (!readBoth(open) || !code.add(Code.OR)) {
                    return false;
                }
            }
            return true;
        }

        private boolean readBoth(int open) {
            if (!readFact(open)) {
                return false;
            }
            for (int k = 0; k < TAPE && text.what == Text.AND; k++) {
                text.advance();
                if (!readFact(open) || !code.add(Code.AND)) {
                    return false;
                }
            }
            return true;
        }

        private boolean readFact(int open) {
            if (text.what == Text.NOT) {
                return text.takeOpening(open) && readFact(open + 1) && code.add(Code.NOT);
            }
            if (text.isSign('[')) {
                return text.takeOpening(open) && readTest(open + 1) && text.takeSign(']');
            }
            if (text.what == Text.ALL) {
                text.advance();
                return code.add(1);
            }
            if (!readSum(open)) {
                return false;
            }
            int sign = text.isSign('<') ? Code.BELOW : text.isSign('>') ? Code.ABOVE : Code.LIKE;
            if (sign == Code.LIKE && !text.isSign('=')) {
                return text.unfit();
            }
            text.advance();
            return readSum(open) && code.add(sign);
        }

        private boolean readSum(int open) {
            if (!readProduct(open)) {
                return false;
            }
            for (int k = 0; k < TAPE && (text.isSign('+') || text.isSign('-')); k++) {
                int sign = text.isSign('+') ? Code.PLUS : Code.MINUS;
                text.advance();
                if (!readProduct(open) || !code.add(sign)) {
                    return false;
                }
            }
            return true;
        }

        private boolean readProduct(int open) {
            if (!readPart(open)) {
                return false;
            }
            for (int k = 0; k < TAPE && (text.isSign('*') || text.isSign('/')); k++) {
                int sign = text.isSign('*') ? Code.TIMES : Code.BY;
                text.advance();
                if (!readPart(open) || !code.add(sign)) {
                    return false;
                }
            }
            return true;
        }

        private boolean readPart(int open) {
            switch (text.what) {
                case Text.NUMBER:
                    int number = text.takeNumber(0, 9999);
                    return number != NONE && code.add(number);
                case Text.SIGNS + '(':
                    return text.takeOpening(open) && readSum(open + 1) && text.takeSign(')');
                case Text.MIN:
                    return readPair(open, Code.MIN);
                case Text.MAX:
                    return readPair(open, Code.MAX);
                case Text.FEELS:
                    return readOf(open, Code.FEELS);
                case Text.STEPS:
                    return readOf(open, Code.STEPS);
                default:
                    break;
            }
            int value = valueHere();
            if (value == 0) {
                return text.unfit();
            }
            namesDay |= value == Code.DAY;
            text.advance();
            return code.add(value);
        }

        private boolean readPair(int open, int sign) {
            text.advance();
            if (!text.isSign('(')) {
                return text.unfit();
            }
            return text.takeOpening(open) && readSum(open + 1) && text.takeSign(',')
                && readSum(open + 1) && text.takeSign(')') && code.add(sign);
        }

        private boolean readOf(int open, int sign) {
            if (sort != QUESTION) {
                return text.unfit();
            }
            return text.takeOpening(open) && readPart(open + 1) && code.add(sign);
        }

        /** The value that the word here means in this sort of law; 0 when it means none. */
        private int valueHere() {
            switch (text.what) {
                case Text.PRESS: return Code.PRESS;
                case Text.SHAPE: return Code.SHAPE;
                case Text.DAY: return Code.DAY;
                case Text.STRENGTH: return sort == PASSES ? Code.STRENGTH : 0;
                case Text.SHEETS: return sort == PASSES ? Code.SHEETS : 0;
                case Text.FEEL: return sort == FADES || sort == ACTS ? Code.FEEL : 0;
                case Text.FEELING: return sort == ACTS ? Code.FEELING : 0;
                case Text.NUMBER_WORD: return sort == QUESTION ? Code.NUMBER : 0;
                default: return 0;
            }
        }
    }

    /** A ministry as its text tells it. */
    private static final class Plan {
        int officers = 0;
        int feelings = 0;
        int carbons = 0;
        int statements = 0;
        int slip = 0;
        // Whether passes or fades ask for the DAY.
        boolean daily = false;
        final int[] officerName = new int[OFFICERS];
        final int[] shape = new int[OFFICERS];
        final int[] press = new int[OFFICERS];
        final int[] feelingName = new int[FEELINGS];
        final int[] from = new int[CARBONS];
        final int[] to = new int[CARBONS];
        final int[] sheets = new int[CARBONS];
        final long[] felt = new long[FEELINGS];
        final Code code = new Code();
        final int[] lawStart = new int[QUESTION];
        final int[] lawStop = new int[QUESTION];

        Plan() {
            clear();
        }

        void clear() {
            officers = 0;
            feelings = 0;
            carbons = 0;
            statements = 0;
            slip = 0;
            daily = false;
            for (int k = 0; k < FEELINGS; k++) {
                felt[k] = 0L;
            }
            code.size = 0;
            beginLaw(PASSES);
            code.add(Code.STRENGTH);
            code.add(Code.SHEETS);
            code.add(Code.MINUS);
            endLaw(PASSES);
            beginLaw(FADES);
            code.add(0);
            endLaw(FADES);
            beginLaw(ACTS);
            code.add(Code.FEEL);
            code.add(50);
            code.add(Code.ABOVE);
            endLaw(ACTS);
        }

        void beginLaw(int sort) {
            if (sort >= 0 && sort < QUESTION) {
                lawStart[sort] = code.size;
            }
        }

        void endLaw(int sort) {
            if (sort >= 0 && sort < QUESTION) {
                lawStop[sort] = code.size;
            }
        }
    }

    /** Reads the text of a ministry into a plan, statement by statement. */
    private static final class Clerk {
        private final Text text;
        private final Grammar grammar;
        private Plan plan;
        private int lawsTold = 0;

        Clerk(Text text, Plan plan) {
            this.text = text;
            this.plan = plan;
            this.grammar = new Grammar(text, plan.code);
        }

        boolean readAll(Plan plan) {
            this.plan = plan;
            plan.clear();
            lawsTold = 0;
            text.beginReading();
            for (int k = 0; k < STATEMENTS && text.what != Text.AT_END; k++) {
                if (!readStatement() || !text.takeSign(';')) {
                    return false;
                }
                plan.statements++;
            }
            return text.what == Text.AT_END || text.refuseAt(5, text.start);
        }

        private boolean readStatement() {
            switch (text.what) {
                case Text.OFFICER: return readOfficer();
                case Text.FEELING: return readFeeling();
                case Text.CARBON: return readCarbon();
                case Text.FELT: return readFelt();
                case Text.PASSES_WORD: return readLaw(PASSES);
                case Text.FADES_WORD: return readLaw(FADES);
                case Text.ACTS_WORD: return readLaw(ACTS);
                case Text.SLIP: return readSlip();
                default: return text.unfit();
            }
        }

        /** Goes over the first word of a statement, of which there are so many and may be so many. */
        private boolean takeKind(int many, int most) {
            if (many >= most) {
                return text.refuseAt(5, text.start);
            }
            text.advance();
            return true;
        }

        private boolean readOfficer() {
            int k = plan.officers;
            if (!takeKind(k, OFFICERS)) {
                return false;
            }
            int name = takeNewName();
            if (name == NONE || !text.takeWord(Text.SHAPE)) {
                return false;
            }
            int shape = text.takeNumber(0, 9);
            if (shape == NONE || !text.takeWord(Text.PRESS)) {
                return false;
            }
            int press = text.takeNumber(0, 9);
            if (press == NONE) {
                return false;
            }
            plan.officerName[k] = name;
            plan.shape[k] = shape;
            plan.press[k] = press;
            plan.officers = k + 1;
            return true;
        }

        private boolean readFeeling() {
            int k = plan.feelings;
            if (!takeKind(k, FEELINGS)) {
                return false;
            }
            int name = takeNewName();
            if (name == NONE) {
                return false;
            }
            plan.feelingName[k] = name;
            plan.feelings = k + 1;
            return true;
        }

        private boolean readCarbon() {
            int k = plan.carbons;
            if (!takeKind(k, CARBONS)) {
                return false;
            }
            int from = nameAmong(plan.officerName, plan.officers);
            if (from == NONE) {
                return false;
            }
            text.advance();
            int to = text.takeWord(Text.TO) ? nameAmong(plan.officerName, plan.officers) : NONE;
            if (to == NONE) {
                return false;
            }
            if (to == from) {
                return text.refuseAt(3, text.start);
            }
            text.advance();
            int sheets = text.takeWord(Text.SHEETS) ? text.takeNumber(1, 9) : NONE;
            if (sheets == NONE) {
                return false;
            }
            plan.from[k] = from;
            plan.to[k] = to;
            plan.sheets[k] = sheets;
            plan.carbons = k + 1;
            return true;
        }

        private boolean readFelt() {
            text.advance();
            int feeling = nameAmong(plan.feelingName, plan.feelings);
            if (feeling == NONE) {
                return false;
            }
            text.advance();
            int officer = text.takeWord(Text.OF) ? nameAmong(plan.officerName, plan.officers) : NONE;
            if (officer == NONE) {
                return false;
            }
            if (strengthIn(plan.felt[feeling], officer) > 0) {
                return text.refuseAt(3, text.start);
            }
            text.advance();
            int strength = text.takeWord(Text.IS) ? text.takeNumber(1, FELT_MOST) : NONE;
            if (strength == NONE) {
                return false;
            }
            plan.felt[feeling] |= packed(officer, strength);
            return true;
        }

        private boolean readLaw(int sort) {
            if (!takeKind(lawsTold >> sort & 1, 1)) {
                return false;
            }
            lawsTold |= 1 << sort;
            grammar.begin(plan.code, sort);
            plan.beginLaw(sort);
            boolean well = sort == ACTS ? grammar.readTest(0) : grammar.readSum(0);
            plan.endLaw(sort);
            plan.daily |= sort != ACTS && grammar.namesDay;
            return well;
        }

        private boolean readSlip() {
            text.advance();
            int slip = text.takeNumber(0, 100);
            plan.slip = slip;
            return slip != NONE;
        }

        private int takeNewName() {
            int name = text.nameHere();
            if (name == NONE) {
                return NONE;
            }
            if (indexOf(name, plan.officerName, plan.officers) != NONE
                || indexOf(name, plan.feelingName, plan.feelings) != NONE) {
                text.refuseAt(3, text.start);
                return NONE;
            }
            text.advance();
            return name;
        }

        /** Which of the names stands here; does not go over it. */
        private int nameAmong(int[] names, int many) {
            int name = text.nameHere();
            if (name == NONE) {
                return NONE;
            }
            int which = indexOf(name, names, many);
            if (which == NONE) {
                text.refuseAt(3, text.start);
            }
            return which;
        }

        private static int indexOf(int name, int[] names, int many) {
            for (int k = 0; k < many && k < names.length; k++) {
                if (names[k] == name) {
                    return k;
                }
            }
            return NONE;
        }
    }

    /** All that days and acts change, and what is kept. */
    private static final class State {
        int day = 0;
        // One bit for each carbon.
        int in = 0;
        int turned = 0;
        final long[] felt = new long[FEELINGS];
        private final int[] keptRow = new int[KEPT];
        private int keptEver = 0;

        void clear() {
            day = 0;
            in = 0;
            turned = 0;
            keptEver = 0;
            for (int k = 0; k < FEELINGS; k++) {
                felt[k] = 0L;
            }
        }

        void begin(Plan plan) {
            clear();
            in = (1 << plan.carbons) - 1;
            System.arraycopy(plan.felt, 0, felt, 0, FEELINGS);
        }

        void copyWorld(State other) {
            day = other.day;
            in = other.in;
            turned = other.turned;
            System.arraycopy(other.felt, 0, felt, 0, FEELINGS);
        }

        void copyAll(State other) {
            copyWorld(other);
            System.arraycopy(other.keptRow, 0, keptRow, 0, KEPT);
            keptEver = other.keptEver;
        }

        int strength(int officer, int feeling) {
            if (feeling < 0 || feeling >= FEELINGS) {
                return 0;
            }
            return strengthIn(felt[feeling], officer);
        }

        void setStrength(int officer, int feeling, int strength) {
            if (feeling >= 0 && feeling < FEELINGS) {
                felt[feeling] = felt[feeling] & ~packed(officer, 127) | packed(officer, strength);
            }
        }

        void keep(int officer, int feeling, int strength) {
            int at = keptEver % KEPT;
            if (at >= 0) {
                keptRow[at] = ((day * OFFICERS + officer) * FEELINGS + feeling) * STRENGTHS + strength;
                keptEver++;
            }
        }

        int told() {
            return Math.min(keptEver, KEPT);
        }

        int keptPart(int k, int what) {
            int at = (keptEver - told() + k) % KEPT;
            if (at < 0) {
                return NONE;
            }
            int row = keptRow[at];
            switch (what) {
                case 0: return row / STRENGTHS / FEELINGS / OFFICERS;
                case 1: return row / STRENGTHS / FEELINGS % OFFICERS;
                case 2: return row / STRENGTHS % FEELINGS;
                case 3: return row % STRENGTHS;
                default: return NONE;
            }
        }
    }

    /** The states ahead of the latest acts. */
    private static final class History {
        private final State[] rows = new State[UNDOABLE];
        private int next = 0;
        int count = 0;

        History() {
            for (int k = 0; k < UNDOABLE; k++) {
                rows[k] = new State();
            }
        }

        void clear() {
            count = 0;
            next = 0;
        }

        void remember(State now) {
            rows[next].copyAll(now);
            next = (next + 1) % UNDOABLE;
            count = Math.min(count + 1, UNDOABLE);
        }

        boolean takeBack(State now) {
            if (count == 0) {
                return false;
            }
            count--;
            next = (next + UNDOABLE - 1) % UNDOABLE;
            now.copyAll(rows[next]);
            return true;
        }
    }

    /** Lets days pass by the laws of a plan. */
    private static final class Engine {
        Plan plan;
        // What laws gave already: the stamp, and in the seven low bits the amount. Searches ask the same again and again.
        private final int[] passedRow = new int[CARBONS * 2 * STRENGTHS];
        private final int[] fadedRow = new int[OFFICERS * STRENGTHS];
        private int stamp = 1;
        private int day = 0;
        private final int[] sums = new int[OFFICERS];

        Engine(Plan plan) {
            this.plan = plan;
        }

        void use(Plan plan) {
            this.plan = plan;
            stamp++;
        }

        /** Must go ahead of passed() and next(): from here on it is that day. */
        void openDay(int day) {
            if (plan.daily && day != this.day) {
                stamp++;
            }
            this.day = day;
        }

        int giver(int carbon, int turned) {
            if (carbon < 0 || carbon >= CARBONS) {
                return 0;
            }
            return (turned >> carbon & 1) == 0 ? plan.from[carbon] : plan.to[carbon];
        }

        int taker(int carbon, int turned) {
            return giver(carbon, ~turned);
        }

        int passed(int carbon, int back, int strength) {
            int k = (2 * carbon + back) * STRENGTHS + strength;
            if (k < 0 || k >= passedRow.length) {
                return 0;
            }
            if (passedRow[k] >> 7 != stamp) {
                int to = taker(carbon, back << carbon);
                Code code = plan.code;
                code.set(Code.PRESS, plan.press[to]);
                code.set(Code.SHAPE, plan.shape[to]);
                code.set(Code.DAY, day);
                code.set(Code.STRENGTH, strength);
                code.set(Code.SHEETS, plan.sheets[carbon]);
                passedRow[k] = stamp << 7 | cut(code.run(plan.lawStart[PASSES], plan.lawStop[PASSES]));
            }
            return passedRow[k] & 127;
        }

        private int faded(int officer, int strength) {
            int k = officer * STRENGTHS + strength;
            if (k < 0 || k >= fadedRow.length) {
                return 0;
            }
            if (fadedRow[k] >> 7 != stamp) {
                setOfficer(officer, day, strength);
                fadedRow[k] = stamp << 7 | cut(plan.code.run(plan.lawStart[FADES], plan.lawStop[FADES]));
            }
            return fadedRow[k] & 127;
        }

        private void setOfficer(int officer, int day, int strength) {
            Code code = plan.code;
            code.set(Code.PRESS, plan.press[officer]);
            code.set(Code.SHAPE, plan.shape[officer]);
            code.set(Code.DAY, day);
            code.set(Code.FEEL, strength);
        }

        private static int cut(int amount) {
            return Math.max(0, Math.min(FELT_MOST, amount));
        }

        /** One feeling's strengths a day later. */
        long next(long felt, int in, int turned) {
            if (felt == 0L) {
                return 0L;
            }
            for (int officer = 0; officer < OFFICERS; officer++) {
                int strength = strengthIn(felt, officer);
                sums[officer] = strength > 0 ? faded(officer, strength) : 0;
            }
            for (int carbon = 0; carbon < plan.carbons; carbon++) {
                int strength = strengthIn(felt, giver(carbon, turned));
                if ((in >> carbon & 1) == 1 && strength > 0) {
                    sums[taker(carbon, turned)] += passed(carbon, turned >> carbon & 1, strength);
                }
            }
            long after = 0L;
            for (int officer = 0; officer < OFFICERS; officer++) {
                after |= packed(officer, cut(sums[officer]));
            }
            return after;
        }

        /** A day without what is acted on; whether a strength is another one then. */
        boolean flow(State state) {
            openDay(state.day);
            boolean other = false;
            for (int feeling = 0; feeling < FEELINGS; feeling++) {
                long after = next(state.felt[feeling], state.in, state.turned);
                other |= after != state.felt[feeling];
                state.felt[feeling] = after;
            }
            state.day++;
            return other;
        }

        /** A day; how many are acted on. */
        int wholeDay(State state) {
            flow(state);
            // What is acted on belongs to the day that passes, not to the next one.
            state.day--;
            int all = 0;
            for (int officer = 0; officer < plan.officers; officer++) {
                for (int feeling = 0; feeling < plan.feelings; feeling++) {
                    int strength = state.strength(officer, feeling);
                    if (strength > 0 && actsOn(officer, feeling, strength, state.day)) {
                        state.keep(officer, feeling, strength);
                        all++;
                    }
                }
            }
            state.day++;
            return all;
        }

        private boolean actsOn(int officer, int feeling, int strength, int day) {
            setOfficer(officer, day, strength);
            plan.code.set(Code.FEELING, feeling);
            return plan.code.run(plan.lawStart[ACTS], plan.lawStop[ACTS]) != 0;
        }
    }

    /** Ways along the carbons: steps, cuts and turns. */
    private static final class Roads {
        // As many as there are ways to take six of twelve.
        private static final int TRIES = 924;

        private final Engine engine;
        private final State now;
        final int[] far = new int[OFFICERS];
        private final int[] came = new int[OFFICERS];
        private int flowing = 0;
        private final int[] bits = new int[TRIES];
        private final long[] felt = new long[TRIES];
        private int tries = 0;

        Roads(Engine engine, State now) {
            this.engine = engine;
            this.now = now;
        }

        private boolean isIn(int carbon) {
            return (now.in >> carbon & 1) == 1;
        }

        int countTo(int officer) {
            return countFrom(officer, ~now.turned);
        }

        int countFrom(int officer) {
            return countFrom(officer, now.turned);
        }

        private int countFrom(int officer, int turned) {
            int many = 0;
            for (int carbon = 0; carbon < engine.plan.carbons; carbon++) {
                if (isIn(carbon) && engine.giver(carbon, turned) == officer) {
                    many++;
                }
            }
            return many;
        }

        /** Fills far with the steps from an officer to each, NONE without. */
        void measure(int from) {
            for (int officer = 0; officer < OFFICERS; officer++) {
                far[officer] = officer == from ? 0 : NONE;
            }
            for (int step = 0; step < OFFICERS; step++) {
                for (int carbon = 0; carbon < engine.plan.carbons; carbon++) {
                    int to = engine.taker(carbon, now.turned);
                    if (isIn(carbon) && far[to] == NONE && far[engine.giver(carbon, now.turned)] == step) {
                        far[to] = step + 1;
                    }
                }
            }
        }

        /** As many as there are rows of carbons with none in common (the most that flows is the least cut). */
        int fewestCut(int from, int to) {
            flowing = 0;
            for (int many = 0; many < CARBONS; many++) {
                if (!findRow(from, to)) {
                    return many;
                }
                addRow(from, to);
            }
            return CARBONS;
        }

        private boolean findRow(int from, int to) {
            int seen = 1 << from;
            for (int round = 0; round < OFFICERS && (seen >> to & 1) == 0; round++) {
                for (int carbon = 0; carbon < engine.plan.carbons; carbon++) {
                    // A carbon in use can only be gone back along, which frees it.
                    boolean used = (flowing >> carbon & 1) == 1;
                    int turned = used ? ~now.turned : now.turned;
                    int giver = engine.giver(carbon, turned);
                    int taker = engine.taker(carbon, turned);
                    if (isIn(carbon) && (seen >> giver & 1) == 1 && (seen >> taker & 1) == 0) {
                        seen |= 1 << taker;
                        came[taker] = carbon;
                    }
                }
            }
            return (seen >> to & 1) == 1;
        }

        private void addRow(int from, int to) {
            int at = to;
            for (int k = 0; k < OFFICERS && at != from; k++) {
                int carbon = came[at];
                flowing ^= 1 << carbon;
                int giver = engine.giver(carbon, now.turned);
                at = giver == at ? engine.taker(carbon, now.turned) : giver;
            }
        }

        int fewestTurns(int officer, int feeling, int strength, int n) {
            if (feeling < 0 || feeling >= FEELINGS || now.felt[feeling] == 0L) {
                return NONE;
            }
            int near = carbonsNear(officer, n);
            int most = Integer.bitCount(near);
            for (int many = 0; many <= most; many++) {
                gather(near, many, now.felt[feeling]);
                pass(n);
                for (int k = 0; k < tries; k++) {
                    if (strengthIn(felt[k], officer) >= strength) {
                        return bits[k];
                    }
                }
            }
            return NONE;
        }

        /** The carbons along which anything could come to an officer within n days: to turn others is in vain. */
        private int carbonsNear(int officer, int n) {
            int seen = 1 << officer;
            int near = 0;
            for (int day = 0; day < n; day++) {
                int wider = seen;
                for (int carbon = 0; carbon < engine.plan.carbons; carbon++) {
                    int ends = 1 << engine.plan.from[carbon] | 1 << engine.plan.to[carbon];
                    if (isIn(carbon) && (ends & seen) != 0) {
                        near |= 1 << carbon;
                        wider |= ends;
                    }
                }
                seen = wider;
            }
            return near;
        }

        /** Makes a try of each choice of so many of the carbons, by rising bits. */
        private void gather(int carbons, int many, long start) {
            tries = 0;
            int choices = 1 << Integer.bitCount(carbons);
            for (int choice = 0; choice < choices; choice++) {
                if (Integer.bitCount(choice) == many && tries < TRIES) {
                    bits[tries] = spread(choice, carbons);
                    felt[tries] = start;
                    tries++;
                }
            }
        }

        private static int spread(int choice, int carbons) {
            int bits = 0;
            int k = 0;
            for (int carbon = 0; carbon < CARBONS; carbon++) {
                if ((carbons >> carbon & 1) == 1) {
                    bits |= (choice >> k & 1) << carbon;
                    k++;
                }
            }
            return bits;
        }

        private void pass(int n) {
            for (int day = 0; day < n; day++) {
                engine.openDay(now.day + day);
                for (int k = 0; k < tries; k++) {
                    felt[k] = engine.next(felt[k], now.in, now.turned ^ bits[k]);
                }
            }
        }
    }

    /** Who felt it first, by what is found. It is alike for all feelings, as no law of passing or fading names one. */
    private static final class Finder {
        private static final int MOST = OFFICERS * FELT_MOST;

        private final Engine engine;
        private final State now;
        private final int[] rowDay = new int[FOUND_ROWS];
        private final int[] rowOfficer = new int[FOUND_ROWS];
        private final int[] rowStrength = new int[FOUND_ROWS];
        int rows = 0;
        final int[] source = new int[MOST];
        private final long[] felt = new long[MOST];
        int count = 0;
        private final int[] tally = new int[STRENGTHS];
        int tellingDay = 0;
        int tellingOfficer = 0;
        int tellingLeft = 0;
        // What was worked out stands until anything changes.
        private boolean searched = false;
        private boolean weighed = false;

        Finder(Engine engine, State now) {
            this.engine = engine;
            this.now = now;
        }

        void forget() {
            searched = false;
            weighed = false;
        }

        boolean learn(Text text) {
            int many = text.size / 3;
            if (many < 1 || many > FOUND_ROWS || text.size != 3 * many) {
                return false;
            }
            for (int k = 0; k < many; k++) {
                if (text.octetAt(3 * k) > DAYS_FOUND || text.octetAt(3 * k + 1) >= engine.plan.officers
                    || text.octetAt(3 * k + 2) > FELT_MOST) {
                    return false;
                }
            }
            for (int k = 0; k < many; k++) {
                rowDay[k] = text.octetAt(3 * k);
                rowOfficer[k] = text.octetAt(3 * k + 1);
                rowStrength[k] = text.octetAt(3 * k + 2);
            }
            rows = many;
            forget();
            return true;
        }

        void search() {
            if (searched) {
                return;
            }
            searched = true;
            int last = lastRowDay();
            count = 0;
            if (now.day + last > LAST_DAY) {
                return;
            }
            for (int officer = 0; officer < engine.plan.officers; officer++) {
                for (int strength = 1; strength <= FELT_MOST && count < MOST; strength++) {
                    source[count] = STRENGTHS * officer + strength;
                    count++;
                }
            }
            begin();
            for (int day = 0; day <= last; day++) {
                if (day > 0) {
                    pass(now.day + day - 1);
                }
                sift(day);
            }
        }

        private int lastRowDay() {
            int last = 0;
            for (int k = 0; k < rows; k++) {
                last = Math.max(last, rowDay[k]);
            }
            return last;
        }

        private void begin() {
            for (int k = 0; k < count; k++) {
                felt[k] = packed(source[k] / STRENGTHS, source[k] % STRENGTHS);
            }
        }

        private void pass(int day) {
            engine.openDay(day);
            for (int k = 0; k < count; k++) {
                felt[k] = engine.next(felt[k], now.in, now.turned);
            }
        }

        private void sift(int day) {
            int left = 0;
            for (int k = 0; k < count; k++) {
                if (fits(day, felt[k])) {
                    source[left] = source[k];
                    felt[left] = felt[k];
                    left++;
                }
            }
            count = left;
        }

        private boolean fits(int day, long felt) {
            for (int k = 0; k < rows; k++) {
                if (rowDay[k] == day && strengthIn(felt, rowOfficer[k]) != rowStrength[k]) {
                    return false;
                }
            }
            return true;
        }

        /** Works out what tells most of what search() left; false when nothing does. */
        boolean weigh() {
            if (count == 0 || now.day >= LAST_DAY) {
                return false;
            }
            if (!weighed) {
                weighed = true;
                tellingLeft = MOST + 1;
                begin();
                for (int day = 1; day <= DAYS_FOUND && now.day + day <= LAST_DAY && tellingLeft > 1; day++) {
                    pass(now.day + day - 1);
                    weighDay(day);
                }
            }
            return true;
        }

        private void weighDay(int day) {
            for (int officer = 0; officer < engine.plan.officers; officer++) {
                int left = mostLeft(officer);
                if (left < tellingLeft) {
                    tellingLeft = left;
                    tellingDay = day;
                    tellingOfficer = officer;
                }
            }
        }

        private int mostLeft(int officer) {
            for (int k = 0; k < STRENGTHS; k++) {
                tally[k] = 0;
            }
            int most = 0;
            for (int k = 0; k < count; k++) {
                int strength = strengthIn(felt[k], officer);
                if (strength < STRENGTHS) {
                    tally[strength]++;
                    most = Math.max(most, tally[strength]);
                }
            }
            return most;
        }
    }

    /** Reads a question and answers it. */
    private static final class Asker {
        private final Text text;
        private final Engine engine;
        private final State now;
        private final Roads roads;
        private final Code code = new Code();
        private final Grammar grammar;

        Asker(Text text, Engine engine, State now, Roads roads) {
            this.text = text;
            this.engine = engine;
            this.now = now;
            this.roads = roads;
            this.grammar = new Grammar(text, code);
        }

        long answer() {
            text.beginReading();
            int way = text.what;
            if (way < Text.FIRST || way > Text.LEAST) {
                text.unfit();
                return NOTHING;
            }
            text.advance();
            code.size = 0;
            grammar.begin(code, QUESTION);
            boolean well = way <= Text.OFTEN ? grammar.readTest(0) : grammar.readSum(0);
            if (well && text.what != Text.AT_END) {
                well = text.unfit();
            }
            return well ? answerOfAll(way) : NOTHING;
        }

        private long answerOfAll(int way) {
            long answer = way == Text.FIRST || way == Text.LAST ? NONE : 0;
            for (int officer = 0; officer < engine.plan.officers; officer++) {
                long value = valueOf(officer);
                if (way == Text.FIRST && value != 0) {
                    return officer;
                }
                if (way == Text.LAST && value != 0) {
                    answer = officer;
                } else if (way == Text.OFTEN || way == Text.TOTAL) {
                    answer += value;
                } else if (way == Text.MOST) {
                    answer = officer == 0 ? value : Math.max(answer, value);
                } else if (way == Text.LEAST) {
                    answer = officer == 0 ? value : Math.min(answer, value);
                }
            }
            return answer;
        }

        private long valueOf(int officer) {
            code.set(Code.NUMBER, officer);
            code.set(Code.PRESS, engine.plan.press[officer]);
            code.set(Code.SHAPE, engine.plan.shape[officer]);
            code.set(Code.DAY, now.day);
            for (int feeling = 0; feeling < FEELINGS; feeling++) {
                code.felt[feeling] = now.strength(officer, feeling);
            }
            roads.measure(officer);
            System.arraycopy(roads.far, 0, code.far, 0, OFFICERS);
            return code.run(0, code.size);
        }
    }
}
