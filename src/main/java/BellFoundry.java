import java.util.Arrays;

/** A bell foundry; the document tells, promise by promise, what each call answers. */
public final class BellFoundry {
    public static final int INVALID_ARGUMENT = -1;
    public static final int NOT_POSSIBLE = -2;
    public static final int LIMIT_REACHED = -3;
    public static final int NOT_FOUND = -4;

    private static final int COPPER = 0;
    private static final int TIN = 1;

    private static final int MOST_BOUGHT_AT_ONCE = 100000;
    private static final int MOST_STOCK = 1000000;
    private static final int MOST_MELT = 20000;
    private static final int MOST_BELL = 10000;
    private static final int MOST_TUNING = 1000;
    private static final int MOST_PITCH = 20000;
    private static final int MOST_TOLERANCE = 500;

    private static final int MOST_LOTS = 12;
    private static final int MOST_REMAINING_BELLS = 12;
    private static final int MOST_BELLS = 100;
    private static final int MOST_OPEN_ORDERS = 8;
    private static final int MOST_ORDERS = 100;
    private static final int MOST_STATES = 4;
    private static final int MOST_SIGNS = 60;
    private static final int MOST_DEPTH = 5;

    /** The kinds of a lot of scrap. */
    private static final int SPRUE = 0;
    private static final int SHAVINGS = 1;
    private static final int BROKEN_BELL = 2;

    private static final int[] FACTORS = {900, 1200, 1500, 1100};
    private static final int HAND = 2;
    /** What the greatest alloy adds to a pitch. */
    private static final int MOST_ALLOY_PITCH = 250;

    /** The settings; those of the burns have the numbers of their metals. */
    private static final int LEAST_ALLOY = 2;
    private static final int MOST_ALLOY = 3;
    private static final int SPRUE_SHARE = 4;
    private static final int TUNING = 5;
    private static final int LOAD = 6;
    private static final int[] SETTING_FROM = {0, 0, 0, 0, 0, 1, 1};
    private static final int[] SETTING_TO = {50, 100, 1000, 1000, 300, 50, 20000};
    private static final int[] SETTING_FIRST = {5, 20, 180, 260, 50, 6, 2000};

    /** The states of a bell; it is neither sent nor smashed in the first two. */
    private static final int SOUND = 0;
    private static final int CRACKED = 1;
    private static final int SENT = 2;
    private static final int SMASHED = 3;

    /** The states of an order. */
    private static final int OPEN = 0;
    private static final int SERVED = 1;
    private static final int CANCELLED = 2;

    private final Works works = new Works();
    private final History history = new History();
    private final WagonPacker packer = new WagonPacker();
    private final FrameReader reader = new FrameReader();
    private final char[] text = new char[MOST_SIGNS];
    private int length = 0;

    public BellFoundry() {
    }

    // ---- metal

    public int buy(int metal, int pounds) {
        if (!isMetal(metal) || !isIn(pounds, 1, MOST_BOUGHT_AT_ONCE)) {
            return INVALID_ARGUMENT;
        }
        if (works.stock.of(metal) + pounds > MOST_STOCK) {
            return LIMIT_REACHED;
        }
        history.keep(works);
        works.bought.put(metal, pounds);
        works.stock.put(metal, pounds);
        return works.stock.of(metal);
    }

    public int charge(int metal, int pounds) {
        if (!isMetal(metal) || !isIn(pounds, 1, MOST_MELT)) {
            return INVALID_ARGUMENT;
        }
        if (works.stock.of(metal) < pounds) {
            return NOT_POSSIBLE;
        }
        if (works.melt.weight() + pounds > MOST_MELT) {
            return LIMIT_REACHED;
        }
        history.keep(works);
        works.stock.put(metal, -pounds);
        works.melt.put(metal, pounds);
        return works.melt.weight();
    }

    public int scrap(int index) {
        Lot charged = works.heap.at(index);
        if (charged == null) {
            return INVALID_ARGUMENT;
        }
        if (works.melt.weight() + charged.metal.weight() > MOST_MELT) {
            return LIMIT_REACHED;
        }
        history.keep(works);
        works.meltDown(charged);
        works.heap.remove(index);
        return works.melt.weight();
    }

    public int lot(int index, int what) {
        Lot asked = works.heap.at(index);
        if (asked == null || !isIn(what, 0, 4)) {
            return INVALID_ARGUMENT;
        }
        return what == 4 ? asked.kind : asked.metal.tell(what);
    }

    public int melt(int what) {
        if (isIn(what, 0, 3)) {
            return works.melt.tell(what);
        }
        switch (what) {
            case 4: return works.burntMelt().weight();
            case 5: return works.burntMelt().alloy();
            default: return INVALID_ARGUMENT;
        }
    }

    public int set(int what, int value) {
        if (!isIn(what, 0, SETTING_FIRST.length - 1) || !isIn(value, SETTING_FROM[what], SETTING_TO[what])) {
            return INVALID_ARGUMENT;
        }
        history.keep(works);
        int before = works.settings[what];
        works.settings[what] = value;
        return before;
    }

    // ---- bells

    public int pour(int profile, int pounds) {
        if (!isProfile(profile) || !isIn(pounds, 1, MOST_BELL)) {
            return INVALID_ARGUMENT;
        }
        if (works.burntMelt().weight() < works.weightWithSprue(pounds)) {
            return NOT_POSSIBLE;
        }
        if (works.remainingBells() >= MOST_REMAINING_BELLS || works.poured >= MOST_BELLS) {
            return LIMIT_REACHED;
        }
        history.keep(works);
        return works.castBell(profile, pounds);
    }

    public int tune(int bell, int pounds) {
        Bell tuned = works.bellAt(bell);
        if (tuned == null || !isIn(pounds, 1, MOST_TUNING)) {
            return INVALID_ARGUMENT;
        }
        if (tuned.state != SOUND || tuned.metal.weight() <= pounds) {
            return NOT_POSSIBLE;
        }
        history.keep(works);
        works.shave(tuned, pounds);
        return tuned.pitch;
    }

    public int smash(int bell) {
        Bell broken = works.bellAt(bell);
        if (broken == null) {
            return INVALID_ARGUMENT;
        }
        if (!broken.remains()) {
            return NOT_POSSIBLE;
        }
        history.keep(works);
        int weight = broken.metal.weight();
        works.breakUp(broken);
        return weight;
    }

    public int bell(int bell, int what) {
        Bell asked = works.bellAt(bell);
        if (asked == null || !isIn(what, 0, 9)) {
            return INVALID_ARGUMENT;
        }
        switch (what) {
            case 4: return asked.profile;
            case 5: return asked.pitch;
            case 6: return asked.weightPoured;
            case 7: return asked.drawn;
            case 8: return asked.state;
            case 9: return asked.state == SENT ? asked.order : NOT_FOUND;
            default: return asked.state == SMASHED ? NOT_FOUND : asked.metal.tell(what);
        }
    }

    // ---- orders

    public int order(int profile, int pitch, int tolerance) {
        if (!isProfile(profile) || !isIn(pitch, 1, MOST_PITCH) || !isIn(tolerance, 0, MOST_TOLERANCE)) {
            return INVALID_ARGUMENT;
        }
        if (works.ordersIn(OPEN) >= MOST_OPEN_ORDERS || works.came >= MOST_ORDERS) {
            return LIMIT_REACHED;
        }
        history.keep(works);
        return works.takeOrder(profile, pitch, tolerance);
    }

    public int cancel(int order) {
        Order ended = works.orderAt(order);
        if (ended == null) {
            return INVALID_ARGUMENT;
        }
        if (ended.state != OPEN) {
            return NOT_POSSIBLE;
        }
        history.keep(works);
        ended.state = CANCELLED;
        return works.ordersIn(OPEN);
    }

    public int send(int bell, int order) {
        Bell gone = works.bellAt(bell);
        Order served = works.orderAt(order);
        if (gone == null || served == null) {
            return INVALID_ARGUMENT;
        }
        int weight = gone.metal.weight();
        if (served.state != OPEN || !served.isFitBy(gone) || weight > works.settings[LOAD]) {
            return NOT_POSSIBLE;
        }
        history.keep(works);
        gone.state = SENT;
        gone.order = order;
        served.state = SERVED;
        return weight;
    }

    public int orderOf(int order, int what) {
        Order asked = works.orderAt(order);
        if (asked == null) {
            return INVALID_ARGUMENT;
        }
        switch (what) {
            case 0: return asked.profile;
            case 1: return asked.pitch;
            case 2: return asked.tolerance;
            case 3: return asked.state;
            case 4: return works.lowestBellFor(asked);
            case 5: return works.bellsFor(asked);
            default: return INVALID_ARGUMENT;
        }
    }

    public int tuneFor(int bell, int order) {
        Bell tuned = works.bellAt(bell);
        Order wanted = works.orderAt(order);
        if (tuned == null || wanted == null) {
            return INVALID_ARGUMENT;
        }
        if (tuned.state != SOUND) {
            return NOT_POSSIBLE;
        }
        if (wanted.isFitBy(tuned)) {
            return 0;
        }
        return works.fewestPoundsToFit(tuned, wanted);
    }

    public int pourFor(int order) {
        Order wanted = works.orderAt(order);
        if (wanted == null) {
            return INVALID_ARGUMENT;
        }
        return works.heaviestBellFor(wanted);
    }

    public int wagons(int bells) {
        if (bells < 0 || bells >= 1 << works.remainingBells()) {
            return INVALID_ARGUMENT;
        }
        packer.clear();
        int bit = 1;
        for (int i = 0; i < works.poured; i++) {
            Bell next = works.bells[i];
            if (next.remains()) {
                if ((bells & bit) != 0) {
                    packer.add(next.metal.weight());
                }
                bit <<= 1;
            }
        }
        int load = works.settings[LOAD];
        return packer.heaviest() > load ? NOT_POSSIBLE : packer.fewestWagons(load);
    }

    // ---- accounts

    public int account(int metal, int what) {
        if (!isMetal(metal)) {
            return INVALID_ARGUMENT;
        }
        switch (what) {
            case 0: return works.bought.of(metal);
            case 1: return works.stock.of(metal);
            case 2: return works.melt.of(metal);
            case 3: return works.heap.of(metal);
            case 4: return works.inBells(metal, SOUND) + works.inBells(metal, CRACKED);
            case 5: return works.inBells(metal, SENT);
            case 6: return works.slag.of(metal);
            default: return INVALID_ARGUMENT;
        }
    }

    public int count(int what) {
        switch (what) {
            case 0: return works.heap.size;
            case 1: return works.poured;
            case 2: return works.remainingBells();
            case 3: return works.bellsIn(CRACKED);
            case 4: return works.bellsIn(SENT);
            case 5: return works.came;
            case 6: return works.ordersIn(OPEN);
            case 7: return works.ordersIn(SERVED);
            case 8: return history.size;
            case 9: return length;
            default: return isIn(what, 20, 26) ? works.settings[what - 20] : INVALID_ARGUMENT;
        }
    }

    public int undo() {
        if (history.size == 0) {
            return NOT_POSSIBLE;
        }
        history.restore(works);
        return history.size;
    }

    // ---- frames

    public int type(int character) {
        if (!isIn(character, 32, 126)) {
            return INVALID_ARGUMENT;
        }
        if (length >= MOST_SIGNS) {
            return LIMIT_REACHED;
        }
        text[length] = (char) character;
        length++;
        return length;
    }

    public int clearText() {
        int before = length;
        length = 0;
        return before;
    }

    public int fault(int what) {
        if (!isIn(what, 0, 1)) {
            return INVALID_ARGUMENT;
        }
        reader.read(text, length, works);
        if (reader.reason == FrameReader.NO_FAULT) {
            return NOT_FOUND;
        }
        return what == 0 ? reader.position : reader.reason;
    }

    public int frame(int what) {
        if (!isIn(what, 0, 5)) {
            return INVALID_ARGUMENT;
        }
        reader.read(text, length, works);
        return reader.reason == FrameReader.NO_FAULT ? reader.tell(what) : NOT_POSSIBLE;
    }

    // ---- what several of them use

    private static boolean isIn(int number, int from, int to) {
        return number >= from && number <= to;
    }

    private static boolean isMetal(int metal) {
        return isIn(metal, COPPER, TIN);
    }

    private static boolean isProfile(int profile) {
        return isIn(profile, 0, FACTORS.length - 1);
    }

    /** So many thousandths of a number, rounded up. */
    private static int shareRoundedUp(int number, int thousandths) {
        return (number * thousandths + 999) / 1000;
    }

    private static long cube(long number) {
        return number * number * number;
    }

    /** The greatest number, at least 1, whose cube is at most 1000000 * (a weight). */
    private static int rootOf(int weight) {
        int root = 1;
        for (int step = 2048; step >= 1; step /= 2) {
            if (cube(root + step) <= 1000000L * weight) {
                root += step;
            }
        }
        return root;
    }

    /** The pitch of a new bell, by the root of its weight. */
    private static int firstPitch(int profile, int root, int alloy) {
        return FACTORS[profile] * 1000 / Math.max(1, root) + alloy / 4;
    }

    /** No new bell that is heavier than this has so high a pitch, whatever its alloy; it spares trying them. */
    private static int heaviestAtPitch(int profile, int pitch) {
        int pitchByWeight = pitch - MOST_ALLOY_PITCH;
        if (pitchByWeight < 1) {
            return MOST_BELL;
        }
        long rootTooGreat = FACTORS[profile] * 1000 / pitchByWeight + 1;
        return (int) Math.min(MOST_BELL, (cube(rootTooGreat) - 1) / 1000000);
    }

    /** Pounds of copper and of tin. */
    private static final class Mixture {
        private int copper = 0;
        private int tin = 0;

        int of(int metal) {
            return metal == COPPER ? copper : tin;
        }

        void put(int metal, int pounds) {
            if (metal == COPPER) {
                copper += pounds;
            } else {
                tin += pounds;
            }
        }

        void mixWith(Mixture other) {
            copper += other.copper;
            tin += other.tin;
        }

        void copyFrom(Mixture other) {
            copper = other.copper;
            tin = other.tin;
        }

        void empty() {
            copper = 0;
            tin = 0;
        }

        int weight() {
            return copper + tin;
        }

        int alloy() {
            return alloyOf(tin, weight());
        }

        int tell(int what) {
            switch (what) {
                case 0: return copper;
                case 1: return tin;
                case 2: return weight();
                default: return alloy();
            }
        }

        /** What becomes slag of a metal if this burns. */
        int lossOf(int metal, int burn) {
            return shareRoundedUp(of(metal), burn);
        }

        void drawInto(Mixture drawn, int pounds) {
            int drawnCopper = copperOfDraw(pounds);
            drawn.copper = drawnCopper;
            drawn.tin = pounds - drawnCopper;
            copper -= drawn.copper;
            tin -= drawn.tin;
        }

        int alloyOfDraw(int pounds) {
            return alloyOf(pounds - copperOfDraw(pounds), pounds);
        }

        private int copperOfDraw(int pounds) {
            int weight = weight();
            return weight < 1 ? 0 : pounds * copper / weight;
        }

        private static int alloyOf(int tin, int weight) {
            return weight < 1 ? 0 : (int) (1000L * tin / weight);
        }
    }

    /** A lot of scrap. */
    private static final class Lot {
        private final Mixture metal = new Mixture();
        private int kind = SPRUE;
    }

    /** The row of the lots of scrap. */
    private static final class Heap {
        private final Lot[] row = new Lot[MOST_LOTS];
        private int size = 0;

        Heap() {
            for (int i = 0; i < row.length; i++) {
                row[i] = new Lot();
            }
        }

        /** The lot with an index, or null if there is none. */
        Lot at(int index) {
            return isIn(index, 0, size - 1) ? row[index] : null;
        }

        void add(Mixture metal, int kind) {
            if (metal.weight() == 0) {
                return;
            }
            if (size < row.length) {
                row[size].metal.empty();
                row[size].kind = kind;
                size++;
            }
            row[size - 1].metal.mixWith(metal);
        }

        void remove(int index) {
            if (!isIn(index, 0, size - 1)) {
                return;
            }
            Lot removed = row[index];
            for (int i = index + 1; i < size; i++) {
                row[i - 1] = row[i];
            }
            size--;
            row[size] = removed;
        }

        int of(int metal) {
            int pounds = 0;
            for (int i = 0; i < size; i++) {
                pounds += row[i].metal.of(metal);
            }
            return pounds;
        }

        void copyFrom(Heap other) {
            size = other.size;
            for (int i = 0; i < size; i++) {
                row[i].metal.copyFrom(other.row[i].metal);
                row[i].kind = other.row[i].kind;
            }
        }
    }

    /** A bell that was poured. */
    private static final class Bell {
        private final Mixture metal = new Mixture();
        private int profile = 0;
        private int pitch = 0;
        private int weightPoured = 0;
        private int drawn = 0;
        private int state = SOUND;
        private int order = 0;

        /** Whether it is neither sent nor smashed. */
        boolean remains() {
            return state == SOUND || state == CRACKED;
        }

        boolean cracksBy(int pounds) {
            return drawn + pounds > weightPoured / (profile == HAND ? 20 : 10);
        }

        int pitchBehind(int pounds, int tuning) {
            return Math.max(1, pitch - tuning * 1000 * pounds / Math.max(1, metal.weight()));
        }

        void copyFrom(Bell other) {
            metal.copyFrom(other.metal);
            profile = other.profile;
            pitch = other.pitch;
            weightPoured = other.weightPoured;
            drawn = other.drawn;
            state = other.state;
            order = other.order;
        }
    }

    /** An order that has come. */
    private static final class Order {
        private int profile = 0;
        private int pitch = 0;
        private int tolerance = 0;
        private int state = OPEN;

        boolean takesPitch(int offered) {
            return Math.abs(offered - pitch) <= tolerance;
        }

        boolean isFitBy(Bell bell) {
            return bell.state == SOUND && bell.profile == profile && takesPitch(bell.pitch);
        }

        void copyFrom(Order other) {
            profile = other.profile;
            pitch = other.pitch;
            tolerance = other.tolerance;
            state = other.state;
        }
    }

    /** Everything but the text and the history: what the history keeps. */
    private static final class Works {
        private final Mixture bought = new Mixture();
        private final Mixture stock = new Mixture();
        private final Mixture slag = new Mixture();
        private final Mixture melt = new Mixture();
        private final Heap heap = new Heap();
        private final int[] settings = SETTING_FIRST.clone();
        private final Bell[] bells = new Bell[MOST_BELLS];
        private final Order[] orders = new Order[MOST_ORDERS];
        private int poured = 0;
        private int came = 0;
        /** These two are used again and again by single calls, and are no part of the state. */
        private final Mixture ladle = new Mixture();
        private final Mixture burnt = new Mixture();

        Works() {
            for (int i = 0; i < bells.length; i++) {
                bells[i] = new Bell();
            }
            for (int i = 0; i < orders.length; i++) {
                orders[i] = new Order();
            }
        }

        void copyFrom(Works other) {
            bought.copyFrom(other.bought);
            stock.copyFrom(other.stock);
            slag.copyFrom(other.slag);
            melt.copyFrom(other.melt);
            heap.copyFrom(other.heap);
            System.arraycopy(other.settings, 0, settings, 0, settings.length);
            poured = other.poured;
            for (int i = 0; i < poured; i++) {
                bells[i].copyFrom(other.bells[i]);
            }
            came = other.came;
            for (int i = 0; i < came; i++) {
                orders[i].copyFrom(other.orders[i]);
            }
        }

        /** The bell with a number, or null if none has come. */
        Bell bellAt(int number) {
            return isIn(number, 0, poured - 1) ? bells[number] : null;
        }

        /** The order with a number, or null if none has come. */
        Order orderAt(int number) {
            return isIn(number, 0, came - 1) ? orders[number] : null;
        }

        void meltDown(Lot lot) {
            if (lot.kind == SHAVINGS) {
                burn(lot.metal);
            }
            melt.mixWith(lot.metal);
        }

        private void burn(Mixture burning) {
            for (int metal = COPPER; metal <= TIN; metal++) {
                int lost = burning.lossOf(metal, settings[metal]);
                burning.put(metal, -lost);
                slag.put(metal, lost);
            }
        }

        /** The melt as it would be if it burned once. */
        Mixture burntMelt() {
            burnt.copyFrom(melt);
            for (int metal = COPPER; metal <= TIN; metal++) {
                burnt.put(metal, -melt.lossOf(metal, settings[metal]));
            }
            return burnt;
        }

        private int sprueOf(int pounds) {
            return shareRoundedUp(pounds, settings[SPRUE_SHARE]);
        }

        int weightWithSprue(int pounds) {
            return pounds + sprueOf(pounds);
        }

        /** Pours a bell, for which there must be room and metal; returns its number. */
        int castBell(int profile, int pounds) {
            burn(melt);
            Bell cast = bells[poured];
            melt.drawInto(cast.metal, pounds);
            melt.drawInto(ladle, sprueOf(pounds));
            heap.add(ladle, SPRUE);
            int alloy = cast.metal.alloy();
            cast.profile = profile;
            cast.pitch = firstPitch(profile, rootOf(pounds), alloy);
            cast.weightPoured = pounds;
            cast.drawn = 0;
            cast.state = isIn(alloy, settings[LEAST_ALLOY], settings[MOST_ALLOY]) ? SOUND : CRACKED;
            cast.order = 0;
            poured++;
            return poured - 1;
        }

        void shave(Bell bell, int pounds) {
            bell.pitch = bell.pitchBehind(pounds, settings[TUNING]);
            if (bell.cracksBy(pounds)) {
                bell.state = CRACKED;
            }
            bell.drawn += pounds;
            bell.metal.drawInto(ladle, pounds);
            heap.add(ladle, SHAVINGS);
        }

        void breakUp(Bell bell) {
            heap.add(bell.metal, BROKEN_BELL);
            bell.metal.empty();
            bell.state = SMASHED;
        }

        /** Adds an order, for which there must be room; returns its number. */
        int takeOrder(int profile, int pitch, int tolerance) {
            Order taken = orders[came];
            taken.profile = profile;
            taken.pitch = pitch;
            taken.tolerance = tolerance;
            taken.state = OPEN;
            came++;
            return came - 1;
        }

        int bellsIn(int state) {
            int found = 0;
            for (int i = 0; i < poured; i++) {
                if (bells[i].state == state) {
                    found++;
                }
            }
            return found;
        }

        int remainingBells() {
            return bellsIn(SOUND) + bellsIn(CRACKED);
        }

        int inBells(int metal, int state) {
            int pounds = 0;
            for (int i = 0; i < poured; i++) {
                if (bells[i].state == state) {
                    pounds += bells[i].metal.of(metal);
                }
            }
            return pounds;
        }

        int ordersIn(int state) {
            int found = 0;
            for (int i = 0; i < came; i++) {
                if (orders[i].state == state) {
                    found++;
                }
            }
            return found;
        }

        int lowestBellFor(Order order) {
            for (int i = 0; i < poured; i++) {
                if (order.isFitBy(bells[i])) {
                    return i;
                }
            }
            return NOT_FOUND;
        }

        int bellsFor(Order order) {
            int found = 0;
            for (int i = 0; i < poured; i++) {
                if (order.isFitBy(bells[i])) {
                    found++;
                }
            }
            return found;
        }

        int fewestPoundsToFit(Bell bell, Order order) {
            if (bell.profile != order.profile) {
                return NOT_FOUND;
            }
            int most = Math.min(MOST_TUNING, bell.metal.weight() - 1);
            for (int pounds = 1; pounds <= most && !bell.cracksBy(pounds); pounds++) {
                if (order.takesPitch(bell.pitchBehind(pounds, settings[TUNING]))) {
                    return pounds;
                }
            }
            return NOT_FOUND;
        }

        int heaviestBellFor(Order order) {
            int weight = burntMelt().weight();
            int most = Math.min(weight, heaviestAtPitch(order.profile, order.pitch));
            int root = rootOf(most);
            for (int pounds = most; pounds >= 1; pounds--) {
                while (root > 1 && cube(root) > 1000000L * pounds) {
                    root--;
                }
                if (weightWithSprue(pounds) <= weight
                        && firstPitch(order.profile, root, burnt.alloyOfDraw(pounds)) >= order.pitch) {
                    return pounds;
                }
            }
            return NOT_FOUND;
        }
    }

    /** The states that can be restored, the oldest one first. */
    private static final class History {
        private final Works[] states = new Works[MOST_STATES];
        private int size = 0;

        History() {
            for (int i = 0; i < states.length; i++) {
                states[i] = new Works();
            }
        }

        void keep(Works works) {
            if (size >= states.length) {
                dropOldest();
            }
            states[size].copyFrom(works);
            size++;
        }

        /** Its object goes to the end of the row, to be used again. */
        private void dropOldest() {
            Works oldest = states[0];
            for (int i = 1; i < states.length; i++) {
                states[i - 1] = states[i];
            }
            states[states.length - 1] = oldest;
            size = states.length - 1;
        }

        void restore(Works works) {
            if (size < 1) {
                return;
            }
            size--;
            works.copyFrom(states[size]);
        }
    }

    /** Finds the fewest wagons for some bells. */
    private static final class WagonPacker {
        /** More than any load of a wagon. */
        private static final int WAGON = 1 << 15;

        private final int[] weights = new int[MOST_REMAINING_BELLS];
        /** For each set of the bells: the fewest wagons times WAGON, and then the least weight in the last one. */
        private final int[] best = new int[1 << MOST_REMAINING_BELLS];
        private int size = 0;

        void clear() {
            size = 0;
        }

        void add(int weight) {
            if (size < weights.length) {
                weights[size] = weight;
                size++;
            }
        }

        int heaviest() {
            int most = 0;
            for (int i = 0; i < size; i++) {
                most = Math.max(most, weights[i]);
            }
            return most;
        }

        /** None of the bells may be heavier than the load. */
        int fewestWagons(int load) {
            int sets = 1 << size;
            // As if a wagon ahead of the first were full, so that the first bell begins one.
            best[0] = load;
            for (int bells = 1; bells < sets; bells++) {
                best[bells] = bestFor(bells, load);
            }
            return best[sets - 1] / WAGON;
        }

        /** Tries each bell of a set as the one that is put in last. */
        private int bestFor(int bells, int load) {
            int least = WAGON * (size + 1);
            for (int i = 0; i < size; i++) {
                if ((bells & (1 << i)) != 0) {
                    int others = best[bells - (1 << i)];
                    int last = others % WAGON;
                    int packed = last + weights[i] <= load
                            ? others + weights[i]
                            : others - last + WAGON + weights[i];
                    least = Math.min(least, packed);
                }
            }
            return least;
        }
    }

    /** What hangs in a frame. */
    private static final class Load {
        private int weight = 0;
        /** The least weight that this could be brought to so that no beam in it had a slant. */
        private int leastLevel = 0;
        /** The step, a power of two, in which greater such weights follow the least one. */
        private int step = 1;

        void hangBell(int pounds) {
            weight = pounds;
            leastLevel = pounds;
            step = 1;
        }

        /** Turns this into the beam between a first load and this one. */
        void hangBeam(Load first) {
            int commonStep = Math.max(first.step, step);
            int half = Math.max(first.leastLevel, leastLevel);
            weight += first.weight;
            leastLevel = 2 * roundUpTo(commonStep, half);
            step = 2 * commonStep;
        }

        private static int roundUpTo(int powerOfTwo, int number) {
            return (number + powerOfTwo - 1) & -powerOfTwo;
        }

        void copyFrom(Load other) {
            weight = other.weight;
            leastLevel = other.leastLevel;
            step = other.step;
        }
    }

    /** Reads a text as a frame, part by part. */
    private static final class FrameReader {
        private static final int NO_FAULT = 0;
        private static final int MISPLACED = 1;
        private static final int NO_SUCH_BELL = 2;
        private static final int HANGS_ALREADY = 3;
        private static final int ENDS_EARLY = 4;

        /** What must come next. */
        private static final int FRAME = 0;
        private static final int COMMA = 1;
        private static final int CLOSE = 2;
        private static final int END = 3;

        private int expected = FRAME;
        private int position = 0;
        private int reason = NO_FAULT;
        /** The frame that was read last, and for each open beam its first one and whether it is behind its comma. */
        private final Load latest = new Load();
        private final Load[] firsts = new Load[MOST_DEPTH];
        private final boolean[] behindComma = new boolean[MOST_DEPTH];
        private int open = 0;
        /** For each number of a bell 1 if it hangs in the frame. */
        private final int[] hangs = new int[MOST_BELLS];
        private int bells = 0;
        private int beams = 0;
        private int deepest = 0;
        private int greatestSlant = 0;

        FrameReader() {
            for (int i = 0; i < firsts.length; i++) {
                firsts[i] = new Load();
            }
        }

        void read(char[] text, int length, Works works) {
            begin();
            int next = 0;
            while (next < length) {
                position = next;
                boolean twoDigits = next + 1 < length && isDigit(text[next]) && isDigit(text[next + 1]);
                if (twoDigits) {
                    reason = readBell(10 * digit(text[next]) + digit(text[next + 1]), works);
                    next += 2;
                } else {
                    reason = readSign(text[next], works);
                    next += 1;
                }
                if (reason != NO_FAULT) {
                    return;
                }
            }
            position = length;
            reason = expected == END ? NO_FAULT : ENDS_EARLY;
        }

        private void begin() {
            expected = FRAME;
            open = 0;
            Arrays.fill(hangs, 0);
            bells = 0;
            beams = 0;
            deepest = 0;
            greatestSlant = 0;
        }

        private static boolean isDigit(char sign) {
            return sign >= '0' && sign <= '9';
        }

        private static int digit(char sign) {
            return sign - '0';
        }

        /** Like all that read a part, it returns the reason of a fault. */
        private int readSign(char sign, Works works) {
            if (isDigit(sign)) {
                return readBell(digit(sign), works);
            }
            if (sign == '(') {
                return openBeam();
            }
            if (sign == ',') {
                return passComma();
            }
            return sign == ')' ? closeBeam() : MISPLACED;
        }

        private int readBell(int number, Works works) {
            if (expected != FRAME) {
                return MISPLACED;
            }
            Bell hung = works.bellAt(number);
            if (hung == null || !hung.remains()) {
                return NO_SUCH_BELL;
            }
            if (hangs[number] != 0) {
                return HANGS_ALREADY;
            }
            hangs[number] = 1;
            bells++;
            latest.hangBell(hung.metal.weight());
            endFrame();
            return NO_FAULT;
        }

        private int openBeam() {
            if (expected != FRAME || open >= MOST_DEPTH) {
                return MISPLACED;
            }
            behindComma[open] = false;
            open++;
            beams++;
            deepest = Math.max(deepest, open);
            return NO_FAULT;
        }

        private int passComma() {
            if (expected != COMMA || open < 1) {
                return MISPLACED;
            }
            firsts[open - 1].copyFrom(latest);
            behindComma[open - 1] = true;
            expected = FRAME;
            return NO_FAULT;
        }

        private int closeBeam() {
            if (expected != CLOSE || open < 1) {
                return MISPLACED;
            }
            Load first = firsts[open - 1];
            greatestSlant = Math.max(greatestSlant, Math.abs(first.weight - latest.weight));
            latest.hangBeam(first);
            open--;
            endFrame();
            return NO_FAULT;
        }

        private void endFrame() {
            if (open < 1) {
                expected = END;
            } else {
                expected = behindComma[open - 1] ? CLOSE : COMMA;
            }
        }

        int tell(int what) {
            switch (what) {
                case 0: return latest.weight;
                case 1: return bells;
                case 2: return beams;
                case 3: return deepest;
                case 4: return greatestSlant;
                default: return latest.leastLevel - latest.weight;
            }
        }
    }
}
