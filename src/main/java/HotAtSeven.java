import java.util.Arrays;

/** Dishes that are to be hot at one minute: the document DOC.md says what each call answers. */
public final class HotAtSeven {
    public static final int NONE = -1000000, BAD = -1000001, STATE = -1000002, FULL = -1000003;

    private static final int FINDING = -1000010, MISREAD = -1000100;
    private static final int NULL = 1, PLACE = 2, KIND = 3, SIZE = 4, STORE = 5;

    private static final int MINUTES = 60, HOTTEST = 9;
    private static final int DISHES = 8, PARTS = 3, STEPS = 24, AWAYS = 4, TOGETHER = 4, ROW = 12, CHOICES = 12;
    private static final int IMAGES = 2;

    // What a kitchen gives, numbered as gives() tells it.
    private static final int RINGS = 0, BIG = 1, SHELVES = 2, HANDS = 3, PANS = 4, GOODS = 5;
    // The numbers of a kitchen, in the order of its text.
    private static final int K_SMALL = 0, K_BIG = 1, K_SHELVES = 2, K_WARMS = 3, K_COOLS = 4, K_HANDS = 5, K_PANS = 6;
    // The words of steps.
    private static final int RING = 0, OVEN = 1, HAND = 2, REST = 3, KEEP = 4;
    private static final int[] WANTED = {HANDS, RINGS, SHELVES, PANS};

    private final Sheets sheets;
    private final Reader reader;
    private final Book[] images;
    private final Kitchen usual;
    private final Kitchen other;
    private final Planner planner;
    private final Judge judging;
    private final Asker asker;
    private final Row plan;
    private final Row trial;
    private Book book;
    private Book spare;
    private int status;
    private int fault;
    private int plannedBy;
    private int planCost;
    private int countedFor;

    public HotAtSeven() {
        sheets = new Sheets();
        reader = new Reader();
        images = new Book[] {new Book(), new Book()};
        book = new Book();
        spare = new Book();
        usual = new Kitchen();
        other = new Kitchen();
        planner = new Planner();
        judging = new Judge();
        asker = new Asker();
        plan = new Row();
        trial = new Row();
    }

    // ---- sheets

    public int sheet(int sheet, int lane, int n) {
        if (!sheets.isOne(sheet) || lane < 0 || lane >= Sheets.LANES || n > Sheets.ITEMS) return BAD;
        if (n < 0) return found(SIZE);
        sheets.lay(sheet, lane, n);
        return fine(n);
    }

    public int set(int sheet, int i, int v) {
        if (!sheets.isOne(sheet)) return BAD;
        if (sheets.isMissing(sheet)) return found(NULL);
        if (!sheets.reaches(sheet, i, 1)) return found(PLACE);
        return fine(sheets.write(sheet, i, v));
    }

    public int copy(int a, int i, int b, int j, int n) {
        if (!sheets.isOne(a) || !sheets.isOne(b)) return BAD;
        if (sheets.isMissing(a) || sheets.isMissing(b)) return found(NULL);
        if (sheets.lanes[a] != sheets.lanes[b]) return found(STORE);
        if (!sheets.reaches(a, i, n) || !sheets.reaches(b, j, n)) return found(PLACE);
        System.arraycopy(sheets.items[a], i, sheets.items[b], j, n);
        return fine(n);
    }

    public int drop(int sheet) {
        if (!sheets.isOne(sheet)) return BAD;
        if (sheets.isMissing(sheet)) return found(NULL);
        return fine(sheets.lose(sheet));
    }

    // ---- books, dinners

    public int feed(long w, int n) {
        if (n < 1 || n > 8) return BAD;
        if (!reader.hasRoom(n)) return FULL;
        reader.put(w, n);
        return reader.length;
    }

    public int book() {
        reader.read(spare);
        if (reader.fault != 0) {
            fault = reader.fault;
            return MISREAD - reader.place;
        }
        Book read = spare;
        spare = book;
        book = read;
        changed();
        return book.dishes;
    }

    public int fault() {
        return fault;
    }

    public int dish(int dish, int what) {
        if (dish < 0 || dish >= book.dishes) return BAD;
        switch (what) {
            case 0: return book.keep[dish];
            case 1: return book.cold[dish];
            case 2: return book.pan[dish];
            case 3: return book.parts[dish];
            case 4: return book.first[dish];
            case 5: return (book.keep[dish] + 1) * (book.waitBehind(dish, 0) + 1) * (book.waitBehind(dish, 1) + 1);
            default: return BAD;
        }
    }

    public int step(int step, int what) {
        if (!book.hasStep(step)) return BAD;
        switch (what) {
            case 0: return book.longs[step];
            case 1: return book.wait[step];
            case 2: return book.stir[step];
            case 3: return book.low[step];
            case 4: return book.high[step];
            default: return BAD;
        }
    }

    public int gives(int minute, int what) {
        if (!book.isRead()) return STATE;
        if (!isMinute(minute) || what < 0 || what >= GOODS) return BAD;
        return book.given(minute, what);
    }

    public int dinner(int dishes) {
        int many = Integer.bitCount(dishes);
        if (many < 1 || many > TOGETHER || (dishes & ~book.allDishes()) != 0) return BAD;
        book.dinner = dishes;
        changed();
        return many;
    }

    public int out(int minute) {
        if (minute < 0 || minute > MINUTES) return BAD;
        if (!book.isRead() || book.kitchen[K_BIG] == 0) return STATE;
        book.out = minute;
        changed();
        return 1;
    }

    // ---- plans

    public int judge(int sheet, int i, int t) {
        int no = refusal(sheets.isOne(sheet) && isTime(t));
        if (no != 0) return no;
        if (sheets.isMissing(sheet)) return found(NULL);
        trial.fill(book);
        if (!sheets.reaches(sheet, i, trial.size)) return found(PLACE);
        System.arraycopy(sheets.items[sheet], i, trial.begins, 0, trial.size);
        return fine(judging.judged(book, usual, trial, t));
    }

    public int least(int t, int k) {
        int no = refusal(isTime(t) && k >= -1);
        if (no != 0) return no;
        if (!findsPlan(t)) return NONE;
        if (k == -1) return planCost;
        return k < plan.dishes ? plan.choice[k] : NONE;
    }

    public int begins(int t, int k) {
        int no = refusal(isTime(t) && k >= 0);
        if (no != 0) return no;
        return findsPlan(t) && k < plan.size ? plan.begins[k] : NONE;
    }

    public int seven(int t) {
        int no = refusal(isTime(t));
        if (no != 0) return no;
        planner.lay(book, usual, book.dinner, t);
        planner.strikeEarly();
        planner.settle(book.dinner);
        return planner.finds(book.dinner, true) ? 1 : 0;
    }

    public int earliest() {
        if (!book.isRead()) return STATE;
        // A plan stays one when all of it is moved later in a kitchen that always gives all.
        other.giveAll(book, book.kitchen[K_HANDS]);
        if (!isPossible(other, book.dinner, MINUTES)) return NONE;
        for (int t = 1; t <= MINUTES; t++) {
            if (isPossible(usual, book.dinner, t)) return t;
        }
        return NONE;
    }

    public int heat(int t, int minute) {
        int no = refusal(isTime(t) && isMinute(minute));
        if (no != 0) return no;
        if (!findsPlan(t)) return NONE;
        judging.oven.want(book, plan);
        judging.oven.settle(book.kitchen[K_WARMS], book.kitchen[K_COOLS]);
        return judging.oven.heats[minute];
    }

    public int wanted(int t, int minute, int what) {
        int no = refusal(isTime(t) && isMinute(minute) && what >= 0 && what < WANTED.length);
        if (no != 0) return no;
        if (!findsPlan(t)) return NONE;
        judging.lay(book, usual, plan);
        return judging.wantedAt(plan, minute, WANTED[what]);
    }

    // ---- what else could be

    public int dinners(int h, int t, int what) {
        int no = refusal(h >= 1 && h <= 3 && isTime(t) && what >= 0 && what <= 1);
        if (no != 0) return no;
        int asked = h * (MINUTES + 1) + t;
        if (countedFor != asked) {
            other.fit(book, h, book.out);
            planner.lay(book, other, book.allDishes(), t);
            planner.settle(book.allDishes());
            planner.countDinners();
            countedFor = asked;
        }
        return what == 0 ? planner.many : planner.greatest;
    }

    public int more(int t) {
        int no = refusal(isTime(t));
        if (no != 0) return no;
        int more = 0;
        if (Integer.bitCount(book.dinner) < TOGETHER) {
            for (int dish = 0; dish < book.dishes; dish++) {
                int one = 1 << dish;
                if ((book.dinner & one) == 0 && isPossible(usual, book.dinner | one, t)) more |= one;
            }
        }
        return more;
    }

    public int mend(int t, int minute) {
        int no = refusal(isTime(t) && isMinute(minute));
        if (no != 0) return no;
        if (book.kitchen[K_BIG] == 0 || book.out < MINUTES) return STATE;
        if (!findsPlan(t)) return NONE;
        other.fit(book, book.kitchen[K_HANDS], minute);
        planner.lay(book, other, book.dinner, t);
        planner.strikeUnlike(plan, minute);
        planner.settle(book.dinner);
        return planner.finds(book.dinner, false) ? planner.cost : NONE;
    }

    public int slack(int t, int k) {
        int no = refusal(isTime(t) && k >= 0);
        if (no != 0) return no;
        if (!findsPlan(t) || k >= plan.size) return NONE;
        trial.take(plan);
        for (int later = 0; later < MINUTES; later++) {
            trial.begins[k]++;
            if (judging.judged(book, usual, trial, t) != 0) return later;
        }
        return MINUTES;
    }

    public int bears(int t, int k, int n) {
        int no = refusal(isTime(t) && k >= 0 && n >= 1 && n <= 9);
        if (no != 0) return no;
        if (!findsPlan(t) || k >= plan.size) return NONE;
        trial.take(plan);
        trial.longs[k] += n;
        return judging.judged(book, usual, trial, t) == 0 ? 1 : 0;
    }

    public int mind(int t, int minute) {
        int no = refusal(isTime(t) && isMinute(minute));
        if (no != 0) return no;
        if (!findsPlan(t)) return NONE;
        int next = NONE;
        int when = MINUTES;
        for (int k = 0; k < plan.size; k++) {
            if (plan.begins[k] >= minute && plan.begins[k] < when) {
                next = k;
                when = plan.begins[k];
            }
        }
        return next;
    }

    public int image(int k) {
        int no = refusal(k >= 0 && k < IMAGES);
        if (no != 0) return no;
        images[k].take(book);
        return 1;
    }

    public int restore(int k) {
        if (k < 0 || k >= IMAGES) return BAD;
        if (!images[k].isRead()) return STATE;
        book.take(images[k]);
        changed();
        return 1;
    }

    // ---- asked

    public int kind(int step) {
        return book.hasStep(step) ? book.kindOf(step) : BAD;
    }

    public int as(int step, int kind) {
        if (!book.hasStep(step) || kind < 0 || kind >= Asker.KINDS) return BAD;
        if (!asker.isKind(book.kindOf(step), kind)) return found(KIND);
        return fine(step);
    }

    public int ask(int step, int what) {
        if (!book.hasStep(step) || what < 0 || what > 1) return BAD;
        return asker.answer(book, step, what);
    }

    public int trace(int i) {
        return i >= 0 && i < asker.length ? asker.bodies[i] : NONE;
    }

    public int count(int what) {
        switch (what) {
            case 0: return sheets.present();
            case 1: return book.dishes;
            case 2: return book.steps;
            case 3: return Integer.bitCount(book.dinner);
            case 4: return book.dinnerSteps();
            case 5: return book.aways;
            case 6: return reader.length;
            case 7: return book.out;
            default: return BAD;
        }
    }

    public int status() {
        return status;
    }

    // ---- what the calls share

    private int found(int finding) {
        status = finding;
        return FINDING - finding;
    }

    private int fine(int answer) {
        status = 0;
        return answer;
    }

    /** BAD or STATE; 0 if the call is to be answered. */
    private int refusal(boolean asTold) {
        if (!asTold) return BAD;
        return book.isRead() ? 0 : STATE;
    }

    private static boolean isTime(int t) {
        return t >= 1 && t <= MINUTES;
    }

    private static boolean isMinute(int minute) {
        return minute >= 0 && minute < MINUTES;
    }

    /** To be called when the book, the dinner or the ring that is out is another. */
    private void changed() {
        plannedBy = 0;
        countedFor = 0;
        usual.fit(book, book.kitchen[K_HANDS], book.out);
    }

    /** Whether there is a plan by t; it then stands in plan and planCost, where later calls find it again. */
    private boolean findsPlan(int t) {
        if (plannedBy != t) {
            planner.lay(book, usual, book.dinner, t);
            planner.settle(book.dinner);
            planCost = NONE;
            if (planner.finds(book.dinner, false)) {
                planCost = planner.cost;
                plan.fill(book);
                planner.tell(plan);
            }
            plannedBy = t;
        }
        return planCost != NONE;
    }

    private boolean isPossible(Kitchen kitchen, int set, int t) {
        planner.lay(book, kitchen, set, t);
        planner.settle(set);
        return planner.finds(set, true);
    }

    /** The minutes from one on, so many, as bits. */
    private static long span(int from, int many) {
        if (from < 0 || many <= 0 || from + many > MINUTES) return 0;
        return ((1L << many) - 1) << from;
    }

    /** Rows of numbers of three sizes. */
    private static final class Sheets {
        static final int COUNT = 8, LANES = 3, ITEMS = 40;
        private static final int MISSING = -1;
        final int[] lanes = new int[COUNT];
        final int[] sizes = new int[COUNT];
        final int[][] items = new int[COUNT][ITEMS];

        Sheets() {
            Arrays.fill(lanes, MISSING);
        }

        boolean isOne(int sheet) {
            return sheet >= 0 && sheet < COUNT;
        }

        boolean isMissing(int sheet) {
            return lanes[sheet] == MISSING;
        }

        /** Whether n items from i on are all there; n may be so great that i and n do not add. */
        boolean reaches(int sheet, int i, int n) {
            return i >= 0 && n >= 0 && n <= sizes[sheet] && i <= sizes[sheet] - n;
        }

        void lay(int sheet, int lane, int n) {
            lanes[sheet] = lane;
            sizes[sheet] = n;
            Arrays.fill(items[sheet], 0);
        }

        int write(int sheet, int i, int v) {
            int kept = lanes[sheet] == 0 ? (byte) v : lanes[sheet] == 1 ? (short) v : v;
            items[sheet][i] = kept;
            return kept;
        }

        int lose(int sheet) {
            lanes[sheet] = MISSING;
            return sizes[sheet];
        }

        int present() {
            int many = 0;
            for (int sheet = 0; sheet < COUNT; sheet++) {
                if (lanes[sheet] != MISSING) many++;
            }
            return many;
        }
    }

    /** A kitchen and its dishes as they were read, the dinner, and from when on a ring is out. */
    private static final class Book {
        final int[] kitchen = new int[7];
        int aways;
        final int[] from = new int[AWAYS];
        final int[] till = new int[AWAYS];
        int dishes;
        final int[] keep = new int[DISHES];
        final int[] cold = new int[DISHES];
        final int[] pan = new int[DISHES];
        final int[] parts = new int[DISHES];
        final int[] first = new int[DISHES];
        int steps;
        final int[] word = new int[STEPS];
        final int[] longs = new int[STEPS];
        final int[] wait = new int[STEPS];
        final int[] stir = new int[STEPS];
        final int[] low = new int[STEPS];
        final int[] high = new int[STEPS];
        int dinner;
        int out = MINUTES;

        void clear() {
            aways = 0;
            dishes = 0;
            steps = 0;
            dinner = 1;
            out = MINUTES;
        }

        void take(Book a) {
            System.arraycopy(a.kitchen, 0, kitchen, 0, kitchen.length);
            aways = a.aways;
            System.arraycopy(a.from, 0, from, 0, AWAYS);
            System.arraycopy(a.till, 0, till, 0, AWAYS);
            dishes = a.dishes;
            System.arraycopy(a.keep, 0, keep, 0, DISHES);
            System.arraycopy(a.cold, 0, cold, 0, DISHES);
            System.arraycopy(a.pan, 0, pan, 0, DISHES);
            System.arraycopy(a.parts, 0, parts, 0, DISHES);
            System.arraycopy(a.first, 0, first, 0, DISHES);
            steps = a.steps;
            System.arraycopy(a.word, 0, word, 0, STEPS);
            System.arraycopy(a.longs, 0, longs, 0, STEPS);
            System.arraycopy(a.wait, 0, wait, 0, STEPS);
            System.arraycopy(a.stir, 0, stir, 0, STEPS);
            System.arraycopy(a.low, 0, low, 0, STEPS);
            System.arraycopy(a.high, 0, high, 0, STEPS);
            dinner = a.dinner;
            out = a.out;
        }

        boolean isRead() {
            return dishes > 0;
        }

        boolean hasStep(int step) {
            return step >= 0 && step < steps;
        }

        int allDishes() {
            return (1 << dishes) - 1;
        }

        int dinnerSteps() {
            int many = 0;
            for (int dish = 0; dish < dishes; dish++) {
                if ((dinner >> dish & 1) != 0) many += parts[dish];
            }
            return many;
        }

        /** The longest wait behind a part of a dish; there is none behind the last one. */
        int waitBehind(int dish, int part) {
            return part < parts[dish] - 1 ? wait[first[dish] + part] : 0;
        }

        int given(int minute, int what) {
            int broken = minute >= out ? 1 : 0;
            switch (what) {
                case RINGS: return kitchen[K_SMALL] + kitchen[K_BIG] - broken;
                case BIG: return kitchen[K_BIG] - broken;
                case SHELVES: return kitchen[K_SHELVES];
                case HANDS: return Math.max(0, kitchen[K_HANDS] - awayAt(minute));
                default: return kitchen[K_PANS];
            }
        }

        private int awayAt(int minute) {
            int many = 0;
            for (int i = 0; i < aways; i++) {
                if (from[i] <= minute && minute <= till[i]) many++;
            }
            return many;
        }

        int kindOf(int step) {
            switch (word[step]) {
                case RING: return stir[step] == 2 ? Asker.STIRRED : Asker.RINGED;
                case OVEN: return Asker.BAKED;
                case HAND: return Asker.HANDED;
                case REST: return Asker.RESTED;
                default: return Asker.KEPT;
            }
        }

        /** Whether the oven is hot enough for a step by the minute in which it begins, if that alone is wanted. */
        boolean warmsBy(int step, int begin) {
            return low[step] <= kitchen[K_WARMS] * (begin + 1);
        }

        /**
         * Whether the oven can serve two steps. Its heat moves by so much a minute at most, so wants that
         * agree two by two (and each with the cold oven at the start) agree all together.
         */
        boolean heatsAgree(int a, int beginA, int b, int beginB) {
            int fromAToB = beginB - (beginA + longs[a] - 1);
            int fromBToA = beginA - (beginB + longs[b] - 1);
            int warmer = 0;
            int cooler = 0;
            if (fromAToB > 0) {
                warmer = kitchen[K_WARMS] * fromAToB;
                cooler = kitchen[K_COOLS] * fromAToB;
            } else if (fromBToA > 0) {
                warmer = kitchen[K_COOLS] * fromBToA;
                cooler = kitchen[K_WARMS] * fromBToA;
            }
            return low[b] <= high[a] + warmer && low[a] <= high[b] + cooler;
        }
    }

    /** The tape, and how it is read into a book. */
    private static final class Reader {
        private static final int TAPE = 600;
        private static final int END = 0, NAME = 1, NUMBER = 2, SIGN = 3, WRONG = 4;
        private static final int MISPLACED = 1, UNTOLD = 2, CROWDED = 3;
        private static final int NO_STEP = -1;
        private static final int[] KITCHEN_LEAST = {0, 0, 0, 0, 0, 1, 0};
        private static final int[] KITCHEN_MOST = {3, 3, 3, 9, 9, 3, 9};
        private final int[] tape = new int[TAPE];
        int length;
        int fault;
        int place;
        private int behind;
        private int sort;
        private int value;

        boolean hasRoom(int n) {
            return length + n <= TAPE;
        }

        void put(long w, int n) {
            for (int i = n - 1; i >= 0 && length < TAPE; i--) {
                tape[length] = (int) (w >> 8 * i) & 255;
                length++;
            }
        }

        /** From the first fault on no token is taken any more, so place stays where the fault is. */
        void read(Book book) {
            book.clear();
            fault = 0;
            behind = 0;
            advance();
            readKitchen(book);
            for (int i = 0; i <= AWAYS && fault == 0 && isWord("away"); i++) readAway(book);
            readDish(book);
            for (int i = 0; i <= DISHES && fault == 0 && sort != END; i++) readDish(book);
            length = 0;
        }

        private void readKitchen(Book book) {
            takeWord("kitchen");
            for (int i = 0; i < KITCHEN_MOST.length; i++) {
                book.kitchen[i] = takeNumber(KITCHEN_LEAST[i], KITCHEN_MOST[i]);
            }
            takeSign();
        }

        private void readAway(Book book) {
            if (book.aways >= AWAYS) {
                fault = CROWDED;
                return;
            }
            takeWord("away");
            int from = takeNumber(0, MINUTES - 1);
            book.from[book.aways] = from;
            book.till[book.aways] = takeNumber(from, MINUTES - 1);
            takeSign();
            book.aways++;
        }

        private void readDish(Book book) {
            if (fault == 0 && isWord("dish") && book.dishes >= DISHES) fault = CROWDED;
            takeWord("dish");
            if (fault != 0) return;
            int dish = book.dishes;
            book.keep[dish] = takeNumber(0, 2);
            book.cold[dish] = takeNumber(0, 9);
            book.pan[dish] = takeNumber(0, 1);
            takeSign();
            book.first[dish] = book.steps;
            readSteps(book);
            book.parts[dish] = book.steps - book.first[dish];
            book.dishes++;
        }

        private void readSteps(Book book) {
            for (int i = 0; i <= PARTS && fault == 0; i++) {
                int word = stepWord();
                if (word == NO_STEP) {
                    if (i == 0) fault = MISPLACED;
                    return;
                }
                if (i == PARTS || book.steps >= STEPS) {
                    fault = CROWDED;
                    return;
                }
                advance();
                readStep(book, book.steps, word);
                book.steps++;
            }
        }

        private void readStep(Book book, int step, int word) {
            book.word[step] = word;
            book.longs[step] = takeNumber(1, 30);
            book.wait[step] = takeNumber(0, 1);
            boolean told = word == RING || word == OVEN;
            book.stir[step] = told ? takeNumber(0, 2) : word == HAND ? 2 : 0;
            boolean third = told || word == KEEP;
            int low = third ? takeNumber(0, word == RING ? 1 : HOTTEST) : NONE;
            book.low[step] = low;
            book.high[step] = word == OVEN ? takeNumber(low, HOTTEST) : NONE;
            takeSign();
        }

        private int stepWord() {
            if (isWord("ring")) return RING;
            if (isWord("oven")) return OVEN;
            if (isWord("hand")) return HAND;
            if (isWord("rest")) return REST;
            return isWord("keep") ? KEEP : NO_STEP;
        }

        private void takeWord(String word) {
            if (fault != 0) return;
            if (isWord(word)) {
                advance();
            } else {
                fault = MISPLACED;
            }
        }

        private void takeSign() {
            if (fault != 0) return;
            if (sort == SIGN) {
                advance();
            } else {
                fault = MISPLACED;
            }
        }

        private int takeNumber(int least, int most) {
            if (fault != 0) return 0;
            if (sort != NUMBER) {
                fault = MISPLACED;
                return 0;
            }
            if (value < least || value > most) {
                fault = UNTOLD;
                return 0;
            }
            int taken = value;
            advance();
            return taken;
        }

        private boolean isWord(String word) {
            if (sort != NAME || behind - place != word.length()) return false;
            for (int i = 0; i < word.length(); i++) {
                if (tape[place + i] != word.charAt(i)) return false;
            }
            return true;
        }

        private void advance() {
            place = behind;
            while (place < length && (tape[place] == ' ' || tape[place] == '\n')) place++;
            behind = place;
            if (place >= length) {
                sort = END;
            } else if (tape[place] >= 'a' && tape[place] <= 'z') {
                while (behind < length && tape[behind] >= 'a' && tape[behind] <= 'z') behind++;
                sort = NAME;
            } else if (tape[place] >= '0' && tape[place] <= '9') {
                takeFigures();
            } else {
                sort = tape[place] == ';' ? SIGN : WRONG;
                behind++;
            }
        }

        private void takeFigures() {
            value = 0;
            while (behind < length && tape[behind] >= '0' && tape[behind] <= '9') {
                value = value * 10 + tape[behind] - '0';
                behind++;
            }
            sort = behind - place <= 2 ? NUMBER : WRONG;
        }
    }

    /** What a kitchen gives, as bits of minutes, so that all minutes are looked at in one stroke. */
    private static final class Kitchen {
        // Five, not four: what falls from 4 to 3 must be told from what falls from 5 to 4.
        private static final int LEVELS = 5;
        private final long[] fewer = new long[GOODS * LEVELS];

        /** The minutes in which fewer than n (1 to 5) are given. */
        long fewerThan(int what, int n) {
            return fewer[what * LEVELS + n - 1];
        }

        /** As if nobody were ever away and no ring out. */
        void giveAll(Book book, int hands) {
            int[] told = book.kitchen;
            give(RINGS, told[K_SMALL] + told[K_BIG]);
            give(BIG, told[K_BIG]);
            give(SHELVES, told[K_SHELVES]);
            give(HANDS, hands);
            give(PANS, told[K_PANS]);
        }

        void fit(Book book, int hands, int out) {
            giveAll(book, hands);
            long broken = span(out, MINUTES - out);
            giveOneLess(RINGS, broken);
            giveOneLess(BIG, broken);
            for (int i = 0; i < book.aways; i++) {
                giveOneLess(HANDS, span(book.from[i], book.till[i] - book.from[i] + 1));
            }
        }

        private void give(int what, int many) {
            for (int n = 1; n <= LEVELS; n++) {
                fewer[what * LEVELS + n - 1] = many < n ? -1L : 0;
            }
        }

        private void giveOneLess(int what, long minutes) {
            int at = what * LEVELS;
            for (int n = 1; n < LEVELS; n++) {
                fewer[at + n - 1] |= minutes & fewer[at + n];
            }
        }
    }

    /** How many dishes want what, as bits of minutes. */
    private static final class Tally {
        private final long[] once = new long[GOODS];
        private final long[] twice = new long[GOODS];
        private final long[] thrice = new long[GOODS];
        final long[] full = new long[GOODS];

        void open(Kitchen kitchen) {
            for (int what = 0; what < GOODS; what++) {
                once[what] = 0;
                twice[what] = 0;
                thrice[what] = 0;
                full[what] = kitchen.fewerThan(what, 1);
            }
        }

        boolean hasRoom(long[] bits) {
            return (full[RINGS] & bits[RINGS]) == 0 && (full[BIG] & bits[BIG]) == 0
                && (full[SHELVES] & bits[SHELVES]) == 0 && (full[HANDS] & bits[HANDS]) == 0
                && (full[PANS] & bits[PANS]) == 0;
        }

        /** Becomes what another tally is (it may be this one) and one dish more. */
        void add(Tally before, long[] bits, Kitchen kitchen) {
            for (int what = 0; what < GOODS; what++) {
                long more = bits[what];
                thrice[what] = before.thrice[what] | before.twice[what] & more;
                twice[what] = before.twice[what] | before.once[what] & more;
                once[what] = before.once[what] | more;
                full[what] = kitchen.fewerThan(what, 1) | kitchen.fewerThan(what, 2) & once[what]
                    | kitchen.fewerThan(what, 3) & twice[what] | kitchen.fewerThan(what, 4) & thrice[what];
            }
        }
    }

    /** One dish laid out in time: when its steps begin, and what it wants as bits of minutes. */
    private static final class Way {
        final int[] begins = new int[PARTS];
        final int[] longs = new int[PARTS];
        final long[] bits = new long[GOODS];
        int dish;
        int early;
        int cost;
        boolean can;

        void choose(Book book, int itsDish, int done, int wait, int secondWait) {
            dish = itsDish;
            int first = book.first[dish];
            int at = done;
            cost = wait + secondWait;
            for (int i = book.parts[dish] - 1; i >= 0; i--) {
                longs[i] = book.longs[first + i];
                at -= longs[i] + (i == 0 ? wait : i == 1 ? secondWait : 0);
                begins[i] = at;
                if (book.word[first + i] == KEEP) cost += book.low[first + i] * longs[i];
            }
            can = at >= 0 && isWarmed(book) && agrees(book, this);
            if (can) lay(book);
        }

        void lay(Book book) {
            Arrays.fill(bits, 0);
            int first = book.first[dish];
            int last = book.parts[dish] - 1;
            for (int i = 0; i <= last; i++) {
                long all = span(begins[i], longs[i]);
                int word = book.word[first + i];
                int stir = book.stir[first + i];
                if (word == RING) bits[RINGS] |= all;
                if (word == RING && book.low[first + i] == 1) bits[BIG] |= all;
                if (word == OVEN) bits[SHELVES] |= all;
                if (stir == 1) bits[HANDS] |= span(begins[i], 1);
                if (stir == 2) bits[HANDS] |= all;
            }
            if (book.pan[dish] == 1) bits[PANS] = span(begins[0], begins[last] + longs[last] - begins[0]);
        }

        private boolean isWarmed(Book book) {
            int first = book.first[dish];
            for (int i = 0; i < book.parts[dish]; i++) {
                if (book.word[first + i] == OVEN && !book.warmsBy(first + i, begins[i])) return false;
            }
            return true;
        }

        /** Whether the oven can serve this way and another one (or this one's own steps). */
        boolean agrees(Book book, Way a) {
            int first = book.first[dish];
            int itsFirst = book.first[a.dish];
            for (int i = 0; i < book.parts[dish]; i++) {
                if (book.word[first + i] != OVEN) continue;
                for (int j = 0; j < book.parts[a.dish]; j++) {
                    boolean both = book.word[itsFirst + j] == OVEN;
                    if (both && !book.heatsAgree(first + i, begins[i], itsFirst + j, a.begins[j])) return false;
                }
            }
            return true;
        }
    }

    /** The search for plans: for each dish of a set a way, all of which the kitchen can serve together. */
    private static final class Planner {
        private static final int ENDLESS = 1000000, UNKNOWN = -1;
        private final Way[] ways = new Way[DISHES * CHOICES];
        private final int[] choices = new int[DISHES];
        private final int[] cheapest = new int[DISHES];
        private final long[][] always = new long[DISHES][GOODS];
        private final Tally[] tallies = new Tally[TOGETHER];
        private final int[] seats = new int[TOGETHER];
        private final int[] picked = new int[TOGETHER];
        private final int[] best = new int[TOGETHER];
        private final int[] rest = new int[TOGETHER + 1];
        private final int[] agreed = new int[DISHES * CHOICES * DISHES];
        private final int[][] open = new int[TOGETHER + 1][TOGETHER];
        private final boolean[] possible = new boolean[1 << DISHES];
        private int seated;
        private int limit;
        private boolean anyWillDo;
        private Book book;
        private Kitchen kitchen;
        int cost;
        int many;
        int greatest;

        Planner() {
            // Stand-ins, so that neither is ever null: lay brings the real ones.
            book = new Book();
            kitchen = new Kitchen();
            for (int i = 0; i < ways.length; i++) ways[i] = new Way();
            for (int i = 0; i < tallies.length; i++) tallies[i] = new Tally();
        }

        /** All ways of a set of dishes by t. Some may be struck; then settle comes, then finds. */
        void lay(Book aBook, Kitchen aKitchen, int set, int t) {
            book = aBook;
            kitchen = aKitchen;
            tallies[0].open(kitchen);
            for (int dish = 0; dish < book.dishes; dish++) {
                if ((set >> dish & 1) != 0) layDish(dish, t);
            }
        }

        /** In the order in which choices are numbered. */
        private void layDish(int dish, int t) {
            int many = 0;
            for (int second = 0; second <= book.waitBehind(dish, 1); second++) {
                for (int first = 0; first <= book.waitBehind(dish, 0); first++) {
                    for (int early = 0; early <= book.keep[dish] && many < CHOICES; early++) {
                        Way way = ways[dish * CHOICES + many];
                        way.choose(book, dish, t - early, first, second);
                        way.early = early;
                        way.cost += early * book.cold[dish];
                        if (way.can && !tallies[0].hasRoom(way.bits)) way.can = false;
                        many++;
                    }
                }
            }
            choices[dish] = many;
        }

        void strikeEarly() {
            for (int i = 0; i < ways.length; i++) {
                if (ways[i].early > 0) ways[i].can = false;
            }
        }

        /** Strikes ways that do not begin, ahead of a minute, just as a row does. */
        void strikeUnlike(Row row, int minute) {
            for (int k = 0; k < row.size; k++) {
                int dish = row.dish[row.seat[k]];
                int part = row.step[k] - book.first[dish];
                for (int i = 0; i < choices[dish]; i++) {
                    Way way = ways[dish * CHOICES + i];
                    int begin = way.begins[part];
                    boolean like = row.begins[k] < minute ? begin == row.begins[k] : begin >= minute;
                    if (!like) way.can = false;
                }
            }
        }

        void settle(int set) {
            for (int dish = 0; dish < book.dishes; dish++) {
                if ((set >> dish & 1) != 0) settleDish(dish);
            }
        }

        /** What all ways of a dish want is taken out of them: it is in the tally before any way is picked. */
        private void settleDish(int dish) {
            long[] common = always[dish];
            Arrays.fill(common, -1L);
            cheapest[dish] = ENDLESS;
            int from = dish * CHOICES;
            for (int i = from; i < from + choices[dish]; i++) {
                if (ways[i].can) {
                    cheapest[dish] = Math.min(cheapest[dish], ways[i].cost);
                    for (int what = 0; what < GOODS; what++) common[what] &= ways[i].bits[what];
                }
            }
            for (int i = from; i < from + choices[dish]; i++) {
                if (ways[i].can) {
                    for (int what = 0; what < GOODS; what++) ways[i].bits[what] &= ~common[what];
                }
            }
            for (int i = from * DISHES; i < (from + CHOICES) * DISHES; i++) agreed[i] = UNKNOWN;
        }

        /** Whether a set has a plan: any (true), or that of the least cost, the first of several. */
        boolean finds(int set, boolean any) {
            anyWillDo = any;
            limit = ENDLESS;
            cost = NONE;
            if (seatAll(set)) seek(0, 0);
            return cost != NONE;
        }

        /** False: there is a dish that has no way, or what they want in any case is too much. */
        private boolean seatAll(int set) {
            seated = 0;
            for (int dish = 0; dish < book.dishes && seated < TOGETHER; dish++) {
                if ((set >> dish & 1) != 0) {
                    if (cheapest[dish] == ENDLESS) return false;
                    seats[seated] = dish;
                    open[0][seated] = choicesThatCan(dish);
                    seated++;
                }
            }
            rest[seated] = 0;
            tallies[0].open(kitchen);
            for (int i = seated - 1; i >= 0; i--) {
                long[] common = always[seats[i]];
                if (!tallies[0].hasRoom(common)) return false;
                tallies[0].add(tallies[0], common, kitchen);
                rest[i] = rest[i + 1] + cheapest[seats[i]];
            }
            return true;
        }

        private int choicesThatCan(int dish) {
            int can = 0;
            for (int i = 0; i < choices[dish]; i++) {
                if (ways[dish * CHOICES + i].can) can |= 1 << i;
            }
            return can;
        }

        /** Choices by their numbers, and a later plan only if it costs less: the first of the least stays. */
        private void seek(int seat, int spent) {
            if (seat >= seated) {
                keepPicked(spent);
                return;
            }
            int from = seats[seat] * CHOICES;
            for (int i = 0; i < choices[seats[seat]]; i++) {
                if ((open[seat][seat] >> i & 1) == 0) continue;
                Way way = ways[from + i];
                if (spent + way.cost + rest[seat + 1] < limit && tallies[seat].hasRoom(way.bits)
                        && leavesOpen(seat, from + i)) {
                    picked[seat] = from + i;
                    if (seat + 1 < seated) tallies[seat + 1].add(tallies[seat], way.bits, kitchen);
                    seek(seat + 1, spent + way.cost);
                }
            }
        }

        /** What stays open for the seats behind if a way is picked here; false: nothing for one of them. */
        private boolean leavesOpen(int seat, int pick) {
            for (int i = seat + 1; i < seated; i++) {
                int stays = open[seat][i] & agreeing(pick, seats[i]);
                if (stays == 0) return false;
                open[seat + 1][i] = stays;
            }
            return true;
        }

        /** The choices (bits) of a dish that agree with a way, so far as two ways alone can tell; found once. */
        private int agreeing(int pick, int dish) {
            int at = pick * DISHES + dish;
            if (agreed[at] == UNKNOWN) {
                Way way = ways[pick];
                int agree = 0;
                for (int i = 0; i < choices[dish]; i++) {
                    Way a = ways[dish * CHOICES + i];
                    if (a.can && !collide(way.bits, a.bits) && way.agrees(book, a)) agree |= 1 << i;
                }
                agreed[at] = agree;
            }
            return agreed[at];
        }

        private boolean collide(long[] a, long[] b) {
            for (int what = 0; what < GOODS; what++) {
                if ((a[what] & b[what] & kitchen.fewerThan(what, 2)) != 0) return true;
            }
            return false;
        }

        private void keepPicked(int spent) {
            cost = spent;
            limit = anyWillDo ? 0 : spent;
            System.arraycopy(picked, 0, best, 0, seated);
        }

        /** Puts the plan that was found into a row of the same dishes. */
        void tell(Row row) {
            for (int seat = 0; seat < row.dishes && seat < seated; seat++) {
                row.choice[seat] = best[seat] - seats[seat] * CHOICES;
            }
            for (int k = 0; k < row.size; k++) {
                int seat = row.seat[k];
                row.begins[k] = ways[best[seat]].begins[row.step[k] - book.first[seats[seat]]];
            }
        }

        /** A set that has a plan keeps one when a dish is left out, so sets are built on smaller ones. */
        void countDinners() {
            many = 0;
            greatest = NONE;
            int most = 0;
            for (int set = 1; set <= book.allDishes(); set++) {
                int size = Integer.bitCount(set);
                possible[set] = size <= TOGETHER && isBuilt(set) && finds(set, true);
                if (possible[set]) {
                    many++;
                    if (size > most) {
                        most = size;
                        greatest = set;
                    }
                }
            }
        }

        private boolean isBuilt(int set) {
            for (int dish = 0; dish < book.dishes; dish++) {
                int less = set & ~(1 << dish);
                if (less != set && less != 0 && !possible[less]) return false;
            }
            return true;
        }
    }

    /** The steps of a dinner in a row, by dishes. */
    private static final class Row {
        int dishes;
        int size;
        final int[] dish = new int[TOGETHER];
        final int[] choice = new int[TOGETHER];
        final int[] step = new int[ROW];
        final int[] seat = new int[ROW];
        final int[] begins = new int[ROW];
        final int[] longs = new int[ROW];

        void fill(Book book) {
            dishes = 0;
            size = 0;
            for (int i = 0; i < book.dishes && dishes < TOGETHER; i++) {
                if ((book.dinner >> i & 1) != 0) {
                    fillDish(book, i);
                    dish[dishes] = i;
                    dishes++;
                }
            }
        }

        private void fillDish(Book book, int itsDish) {
            for (int i = 0; i < book.parts[itsDish] && size < ROW; i++) {
                int itsStep = book.first[itsDish] + i;
                step[size] = itsStep;
                seat[size] = dishes;
                longs[size] = book.longs[itsStep];
                size++;
            }
        }

        void take(Row a) {
            dishes = a.dishes;
            size = a.size;
            System.arraycopy(a.dish, 0, dish, 0, TOGETHER);
            System.arraycopy(a.choice, 0, choice, 0, TOGETHER);
            System.arraycopy(a.step, 0, step, 0, ROW);
            System.arraycopy(a.seat, 0, seat, 0, ROW);
            System.arraycopy(a.begins, 0, begins, 0, ROW);
            System.arraycopy(a.longs, 0, longs, 0, ROW);
        }

        boolean isFirst(int k) {
            return k == 0 || seat[k - 1] != seat[k];
        }

        boolean isLast(int k) {
            return k == size - 1 || seat[k + 1] != seat[k];
        }
    }

    /** The oven minute by minute. */
    private static final class Oven {
        private final int[] low = new int[MINUTES];
        private final int[] high = new int[MINUTES];
        final int[] heats = new int[MINUTES];

        void want(Book book, Row row) {
            Arrays.fill(low, 0);
            Arrays.fill(high, HOTTEST);
            for (int k = 0; k < row.size; k++) {
                int step = row.step[k];
                if (book.word[step] == OVEN) {
                    int end = Math.min(MINUTES, row.begins[k] + row.longs[k]);
                    for (int minute = Math.max(0, row.begins[k]); minute < end; minute++) {
                        low[minute] = Math.max(low[minute], book.low[step]);
                        high[minute] = Math.min(high[minute], book.high[step]);
                    }
                }
            }
        }

        /** The first minute that no heats up to it can serve; MINUTES if there is none. */
        int firstLack(int warms, int cools) {
            int least = 0;
            int most = 0;
            for (int minute = 0; minute < MINUTES; minute++) {
                least = Math.max(low[minute], least - cools);
                most = Math.min(high[minute], most + warms);
                if (least > most) return minute;
            }
            return MINUTES;
        }

        /** Back from the end: how hot it must be at least for what comes; then forth, as low as that lets it be. */
        void settle(int warms, int cools) {
            for (int minute = MINUTES - 2; minute >= 0; minute--) {
                low[minute] = Math.max(low[minute], low[minute + 1] - warms);
            }
            int heat = 0;
            for (int minute = 0; minute < MINUTES; minute++) {
                heat = Math.max(low[minute], heat - cools);
                heats[minute] = heat;
            }
        }
    }

    /** What a row of beginnings lacks first. */
    private static final class Judge {
        final Oven oven = new Oven();
        private final Way[] ways = new Way[TOGETHER];
        private final Tally tally = new Tally();
        private final long[] lacking = new long[GOODS];

        Judge() {
            for (int i = 0; i < ways.length; i++) ways[i] = new Way();
        }

        int judged(Book book, Kitchen kitchen, Row row, int t) {
            for (int k = 0; k < row.size; k++) {
                if (row.begins[k] < 0 || row.begins[k] > MINUTES - row.longs[k]) return 1 + 10 * k;
            }
            for (int k = 0; k < row.size; k++) {
                if (!row.isFirst(k) && !followsInTime(book, row, k)) return 2 + 10 * k;
            }
            for (int k = 0; k < row.size; k++) {
                int early = t - row.begins[k] - row.longs[k];
                boolean inTime = early >= 0 && early <= book.keep[row.dish[row.seat[k]]];
                if (row.isLast(k) && !inTime) return 3 + 10 * k;
            }
            return firstLack(book, kitchen, row);
        }

        private boolean followsInTime(Book book, Row row, int k) {
            int waits = row.begins[k] - row.begins[k - 1] - row.longs[k - 1];
            return waits >= 0 && waits <= book.wait[row.step[k - 1]];
        }

        private int firstLack(Book book, Kitchen kitchen, Row row) {
            lay(book, kitchen, row);
            oven.want(book, row);
            int cold = oven.firstLack(book.kitchen[K_WARMS], book.kitchen[K_COOLS]);
            for (int minute = 0; minute < MINUTES; minute++) {
                int word = lackAt(1L << minute, minute == cold);
                if (word != 0) return 1000 + 10 * minute + word;
            }
            return 0;
        }

        private int lackAt(long minute, boolean cold) {
            if ((lacking[BIG] & minute) != 0) return 1;
            if ((lacking[RINGS] & minute) != 0) return 2;
            if ((lacking[SHELVES] & minute) != 0) return 3;
            if (cold) return 4;
            if ((lacking[HANDS] & minute) != 0) return 5;
            return (lacking[PANS] & minute) != 0 ? 6 : 0;
        }

        /** The dishes of a row one by one: what one wants where all is taken already is lacking. */
        void lay(Book book, Kitchen kitchen, Row row) {
            Arrays.fill(lacking, 0);
            tally.open(kitchen);
            for (int k = 0; k < row.size; k++) {
                Way way = ways[row.seat[k]];
                way.dish = row.dish[row.seat[k]];
                int part = row.step[k] - book.first[way.dish];
                way.begins[part] = row.begins[k];
                way.longs[part] = row.longs[k];
                if (row.isLast(k)) {
                    way.lay(book);
                    for (int what = 0; what < GOODS; what++) lacking[what] |= tally.full[what] & way.bits[what];
                    tally.add(tally, way.bits, kitchen);
                }
            }
        }

        /** Of a row that was laid. */
        int wantedAt(Row row, int minute, int what) {
            int many = 0;
            for (int i = 0; i < row.dishes; i++) {
                if ((ways[i].bits[what] >> minute & 1) != 0) many++;
            }
            return many;
        }
    }

    /** Asks of steps, and the trace of the bodies that began for the latest one. */
    private static final class Asker {
        static final int KINDS = 7, RINGED = 1, BAKED = 2, HANDED = 3, RESTED = 4, KEPT = 5, STIRRED = 6;
        private static final int STEP = 0, TRACE = 16, DEEPEST = 8;
        private static final int[] ABOVE = {STEP, STEP, STEP, STEP, STEP, RESTED, RINGED};
        final int[] bodies = new int[TRACE];
        int length;

        boolean isKind(int told, int kind) {
            return told == kind || ABOVE[told] == kind || kind == STEP;
        }

        int answer(Book book, int step, int what) {
            length = 0;
            return what == 0 ? sizeOf(book, step, 0) : markOf(book, step, 0);
        }

        private void begin(int body) {
            if (length < TRACE) {
                bodies[length] = body;
                length++;
            }
        }

        /** Sizes ask marks and marks ask sizes; no kind goes round, and the depth would end it. */
        private int sizeOf(Book book, int step, int depth) {
            if (depth > DEEPEST) return 0;
            switch (book.kindOf(step)) {
                case RINGED: return sizeOfRinged(book, step);
                case STIRRED:
                    begin(12);
                    return 2 * sizeOfRinged(book, step);
                case BAKED:
                    begin(13);
                    return sizeOfAny(book, step) + book.high[step] - book.low[step];
                case KEPT:
                    begin(14);
                    return sizeOfAny(book, step) - markOf(book, step, depth + 1);
                default: return sizeOfAny(book, step);
            }
        }

        private int sizeOfAny(Book book, int step) {
            begin(10);
            return book.longs[step];
        }

        private int sizeOfRinged(Book book, int step) {
            begin(11);
            return sizeOfAny(book, step) + 10 * book.low[step];
        }

        private int markOf(Book book, int step, int depth) {
            if (depth > DEEPEST) return 0;
            switch (book.kindOf(step)) {
                case RESTED: return markOfRested(step);
                case KEPT:
                    begin(22);
                    return markOfRested(step) + book.low[step];
                case HANDED:
                    begin(23);
                    return markOfAny(step) + sizeOf(book, step, depth + 1);
                case STIRRED:
                    begin(24);
                    return -markOfAny(step);
                default: return markOfAny(step);
            }
        }

        private int markOfAny(int step) {
            begin(20);
            return step;
        }

        private int markOfRested(int step) {
            begin(21);
            return markOfAny(step) + 50;
        }
    }
}
