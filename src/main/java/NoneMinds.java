/** A table of guests who say that they do not mind: what each dish is worth to them, and what to order. */
public final class NoneMinds {
    public static final int BAD = -1, NO = -2, FULL = -3, NONE = -4;

    private static final int FRANK = 0, POLITE = 1, SILENT = 2, CHOOSY = 3;
    private static final int TEXT_LIMIT = 200, GUEST_LIMIT = 9, DISH_LIMIT = 6;
    private static final int UNDO_LIMIT = 8, KEEP_LIMIT = 2, HEARD_LIMIT = 8;
    private static final int LAST_MINUTE = 99, TOP_WORTH = 9, FRANK_HEART = 5;
    private static final int NOBODY = -1, NOTHING = -1;
    private static final String FIRST_TEXT =
            "d4;g05371;g18806;g22496;g37027;g04444;g09153;t0,30;t2,45;v1;s90;h20;";

    private final Reader text;
    private final Table table;
    private final Table pretended;
    private final Moment moment;
    private final Pile past;
    private final Pile kept;
    private final Notes notes;
    private Menu laid;
    private Menu draft;

    public NoneMinds() {
        text = new Reader();
        table = new Table();
        pretended = new Table();
        past = new Pile(UNDO_LIMIT);
        kept = new Pile(KEEP_LIMIT);
        notes = new Notes();
        laid = new Menu();
        draft = new Menu();
        moment = new Moment(laid);
        // The first table goes through the reader like any other, so that there is one way to lay.
        for (int place = 0; place < FIRST_TEXT.length(); place++) text.append(FIRST_TEXT.charAt(place));
        text.readInto(laid);
        text.length = 0;
    }

    // ---- tables

    public int write(int letter) {
        if (isOutside(letter, 32, 126)) return BAD;
        if (text.length >= TEXT_LIMIT) return FULL;
        text.append(letter);
        return text.length;
    }

    public int wipe() {
        int length = text.length;
        text.length = 0;
        return length;
    }

    public int fault() {
        return text.readInto(draft);
    }

    public int lay() {
        if (text.readInto(draft) != NONE || draft.guests == 0) return NO;
        Menu old = laid;
        laid = draft;
        draft = old;
        table.clear();
        past.size = 0;
        kept.size = 0;
        notes.size = 0;
        return laid.guests;
    }

    public int guest(int i, int what) {
        if (!laid.hasGuest(i)) return BAD;
        switch (what) {
            case 0: return laid.kindOf(i);
            case 1: return vetoesLeft(table, i);
            case 2: return now().heartsOf(i);
            case 3: return now().favourite(i);
            default: return BAD;
        }
    }

    public int dish(int d, int what) {
        if (!laid.hasDish(d)) return BAD;
        switch (what) {
            case 0: return laid.minutesOf(d);
            case 1: return table.isVetoed(d) ? 1 : 0;
            case 2: return now().heartsOn(d);
            case 3: return now().together(d, NOBODY);
            default: return BAD;
        }
    }

    public int worth(int i, int d) {
        if (!laid.hasGuest(i) || !laid.hasDish(d)) return BAD;
        return now().value(i, d);
    }

    // ---- acts

    public int pass(int n) {
        if (isOutside(n, 1, 30)) return BAD;
        if (table.isOrdered() || table.minute + n > LAST_MINUTE) return NO;
        past.push(table);
        table.minute += n;
        return table.minute;
    }

    public int veto(int i, int d) {
        if (!laid.hasGuest(i) || !laid.hasDish(d)) return BAD;
        if (table.isOrdered() || table.isVetoed(d)) return NO;
        if (vetoesLeft(table, i) < 1 || dishesLeft(table) < 2) return NO;
        past.push(table);
        table.strike(i, d);
        return dishesLeft(table);
    }

    public int order(int d) {
        if (!laid.hasDish(d)) return BAD;
        if (table.isOrdered() || table.isVetoed(d)) return NO;
        if (!laid.isInTime(d, table.minute)) return NO;
        past.push(table);
        table.ordered = d;
        return table.minute + laid.minutesOf(d);
    }

    public int undo() {
        return past.popInto(table) ? past.size : NO;
    }

    // ---- what to order

    public int most(int what) {
        if (isOutside(what, 0, 1)) return BAD;
        Moment now = now();
        int dish = now.mostDish(NOBODY);
        return what == 0 ? dish : now.together(dish, NOBODY);
    }

    public int fair(int what) {
        if (isOutside(what, 0, 1)) return BAD;
        Moment now = now();
        int dish = now.fairDish();
        return what == 0 ? dish : now.leastWorth(dish);
    }

    public int beats(int a, int b) {
        if (!isOnOffer(a) || !isOnOffer(b) || a == b) return BAD;
        return now().lead(a, b) + 50;
    }

    public int champion() {
        return now().winner();
    }

    public int middle() {
        return now().nobodysWorst();
    }

    public int struck(int i) {
        if (!laid.hasGuest(i)) return BAD;
        return now().lastStanding(i);
    }

    public int two(int what) {
        if (isOutside(what, 0, 1)) return BAD;
        if (dishesLeft(table) < 2) return NONE;
        Moment now = now();
        int pair = now.bestPair();
        return what == 0 ? pair : now.pairWorth(pair / 8, pair % 8);
    }

    public int houses(int c) {
        if (isOutside(c, 0, 99)) return BAD;
        if (dishesLeft(table) < 2) return 2;
        Moment now = now();
        int pair = now.bestPair();
        int apart = now.pairWorth(pair / 8, pair % 8) - c;
        return apart > now.together(now.mostDish(NOBODY), NOBODY) ? 1 : 2;
    }

    public int waits(int d, int what) {
        if (!laid.hasDish(d) || isOutside(what, 0, 1)) return BAD;
        if (table.isOrdered() || table.isVetoed(d)) return NONE;
        int bestMinute = NONE;
        int bestWorth = NONE;
        for (int minute = table.minute; minute <= LAST_MINUTE; minute++) {
            int worth = at(minute, table.vetoed).together(d, NOBODY);
            if (laid.isInTime(d, minute) && worth > bestWorth) {
                bestMinute = minute;
                bestWorth = worth;
            }
        }
        return what == 0 ? bestMinute : bestWorth;
    }

    // ---- what was heard

    public int heard(int i, int d, int heart) {
        if (!laid.hasGuest(i) || !laid.hasDish(d) || isOutside(heart, 0, 1)) return BAD;
        Note note = notes.next();
        if (note == null) return FULL;
        note.guest = i;
        note.dish = d;
        note.heart = heart == 1;
        note.minute = table.minute;
        note.vetoed = table.vetoed;
        return notes.size;
    }

    public int forget() {
        int size = notes.size;
        notes.size = 0;
        return size;
    }

    public int may(int i) {
        if (!laid.hasGuest(i)) return BAD;
        int kinds = 0;
        for (int kind = FRANK; kind <= CHOOSY; kind++) {
            if (agreesWithNotes(i, kind)) kinds |= 1 << kind;
        }
        return kinds;
    }

    public int suits(int d) {
        if (!isOnOffer(d)) return BAD;
        Moment now = now();
        int mostDish = now.mostDish(NOBODY);
        int suited = 0;
        for (int i = 0; i < laid.guests; i++) {
            if (now.value(i, d) >= now.value(i, mostDish)) suited |= 1 << i;
        }
        return suited;
    }

    public int against(int d, int what) {
        if (!laid.hasDish(d) || isOutside(what, 0, 1)) return BAD;
        return what == 0 ? now().opponent(d) : now().leastWorth(d);
    }

    public int ask(int n) {
        if (isOutside(n, 1, 9)) return BAD;
        Moment now = now();
        int mostDish = now.mostDish(NOBODY);
        for (int i = 0; i < n && i < laid.guests; i++) {
            if (now.mostDish(i) != mostDish) return i;
        }
        return NONE;
    }

    // ---- chances

    public int wheel(int n, int part) {
        if (isOutside(n, 0, 6) || isOutside(part, 0, 1)) return BAD;
        Moment now = now();
        int all = Integer.bitCount(now.left);
        int below = power(all, n);
        int above = below - power(all - now.welcomeDishes(), n);
        int shared = Math.max(1, commonDivisor(above, below));
        return (part == 0 ? above : below) / shared;
    }

    public int evening(int z, int n, int what) {
        if (isOutside(z, 0, 9999) || isOutside(n, 1, 20) || isOutside(what, 0, 1)) return BAD;
        if (table.isOrdered()) return NO;
        pretended.copyFrom(table);
        for (int time = 0; time < n; time++) pretend(drawOf(z, time));
        Moment then = at(pretended.minute, pretended.vetoed);
        return what == 0 ? then.left : then.mostDish(NOBODY);
    }

    // ---- kept

    public int keep() {
        if (kept.size >= KEEP_LIMIT) return FULL;
        kept.push(table);
        return kept.size;
    }

    public int back() {
        if (!kept.popInto(table)) return NO;
        past.size = 0;
        return kept.size;
    }

    public int count(int what) {
        switch (what) {
            case 0: return laid.guests;
            case 1: return laid.dishes;
            case 2: return table.minute;
            case 3: return Integer.bitCount(table.vetoed);
            case 4: return table.isOrdered() ? table.ordered : NONE;
            case 5: return notes.size;
            case 6: return past.size;
            case 7: return kept.size;
            case 8: return text.length;
            default: return BAD;
        }
    }

    // ---- behind the face

    /** The one moment is used again and again: no call makes an object. */
    private Moment at(int minute, int vetoed) {
        moment.menu = laid;
        moment.minute = minute;
        moment.left = laid.allDishes() & ~vetoed;
        return moment;
    }

    private Moment now() {
        return at(table.minute, table.vetoed);
    }

    private boolean isOnOffer(int d) {
        return laid.hasDish(d) && !table.isVetoed(d);
    }

    private int vetoesLeft(Table which, int i) {
        return laid.vetoes - which.spentBy(i);
    }

    private int dishesLeft(Table which) {
        return Integer.bitCount(laid.allDishes() & ~which.vetoed);
    }

    private boolean agreesWithNotes(int i, int kind) {
        for (int k = 0; k < notes.size; k++) {
            Note note = notes.get(k);
            if (note == null || note.guest != i) continue;
            Moment then = at(note.minute, note.vetoed);
            if (then.gives(kind, i, note.dish) != note.heart) return false;
        }
        return true;
    }

    private void pretend(int draw) {
        int minutes = 1 + draw % 5;
        if (pretended.minute + minutes <= LAST_MINUTE) pretended.minute += minutes;
        if (laid.guests < 1) return;
        int who = draw / 8 % laid.guests;
        if (vetoesLeft(pretended, who) < 1 || dishesLeft(pretended) < 2 || draw / 128 % 3 != 0) return;
        Moment then = at(pretended.minute, pretended.vetoed);
        pretended.strike(who, then.leastLiked(who, then.left));
    }

    /** In long, as the square is above what an int holds. */
    private static int drawOf(int z, int time) {
        long x = 7919L * z + 6151L * time + 1;
        return (int) (x * x % 65521 / 2);
    }

    private static boolean isOutside(int number, int low, int high) {
        return number < low || number > high;
    }

    private static int power(int base, int exponent) {
        int product = 1;
        for (int k = 0; k < exponent; k++) product *= base;
        return product;
    }

    /** Numbers here are at most 6 to the 6th, for which far fewer than 64 steps do. */
    private static int commonDivisor(int a, int b) {
        int large = b;
        int small = a;
        for (int step = 0; step < 64 && small != 0; step++) {
            int rest = large % small;
            large = small;
            small = rest;
        }
        return large;
    }

    private static int entry(int[] row, int place) {
        return place >= 0 && place < row.length ? row[place] : 0;
    }

    private static void put(int[] row, int place, int number) {
        if (place >= 0 && place < row.length) row[place] = number;
    }

    /** What a text tells. */
    private static final class Menu {
        int dishes;
        int guests;
        int vetoes;
        int shuts;
        int hunger;
        final int[] kinds = new int[GUEST_LIMIT];
        final int[] told = new int[GUEST_LIMIT * DISH_LIMIT];
        final int[] minutes = new int[DISH_LIMIT];

        void clear() {
            dishes = 4;
            guests = 0;
            vetoes = 1;
            shuts = 90;
            hunger = 20;
            for (int d = 0; d < DISH_LIMIT; d++) put(minutes, d, 20);
        }

        boolean hasGuest(int i) {
            return i >= 0 && i < guests;
        }

        boolean hasDish(int d) {
            return d >= 0 && d < dishes;
        }

        int allDishes() {
            return (1 << dishes) - 1;
        }

        int kindOf(int i) {
            return entry(kinds, i);
        }

        int minutesOf(int d) {
            return entry(minutes, d);
        }

        boolean isInTime(int d, int minute) {
            return minute + minutesOf(d) <= shuts;
        }

        int toldWorth(int i, int d) {
            return hasGuest(i) && hasDish(d) ? entry(told, i * DISH_LIMIT + d) : 0;
        }
    }

    /** The text, and the reading of it: each reader of an item stops behind it, or tells that it is not so. */
    private static final class Reader {
        final int[] letters = new int[TEXT_LIMIT];
        int length;
        private int place;
        private boolean onlyDishesSoFar;

        void append(int letter) {
            if (length >= TEXT_LIMIT) return;
            put(letters, length, letter);
            length++;
        }

        /** The place of the first item that is not so, or NONE; each item moves on by a letter at least. */
        int readInto(Menu menu) {
            menu.clear();
            place = 0;
            onlyDishesSoFar = true;
            for (int items = 0; items < TEXT_LIMIT && place < length; items++) {
                int start = place;
                if (!readItem(menu)) return start;
            }
            return NONE;
        }

        private boolean readItem(Menu menu) {
            int kind = peek();
            place++;
            if (kind == 'd') return onlyDishesSoFar && readDishes(menu);
            onlyDishesSoFar = false;
            switch (kind) {
                case 'g': return readGuest(menu);
                case 't': return readMinutes(menu);
                case 'v': return readVetoes(menu);
                case 's': return readShuts(menu);
                case 'h': return readHunger(menu);
                default: return false;
            }
        }

        private boolean readDishes(Menu menu) {
            menu.dishes = number();
            return !isOutside(menu.dishes, 2, DISH_LIMIT) && skip(';');
        }

        private boolean readGuest(Menu menu) {
            int i = menu.guests;
            if (i >= GUEST_LIMIT) return false;
            int kind = figure();
            if (isOutside(kind, FRANK, CHOOSY)) return false;
            put(menu.kinds, i, kind);
            for (int d = 0; d < menu.dishes; d++) {
                int told = figure();
                if (told == NOTHING) return false;
                put(menu.told, i * DISH_LIMIT + d, told);
            }
            menu.guests++;
            return skip(';');
        }

        private boolean readMinutes(Menu menu) {
            int d = number();
            if (!menu.hasDish(d) || !skip(',')) return false;
            int minutes = number();
            put(menu.minutes, d, minutes);
            return !isOutside(minutes, 1, 60) && skip(';');
        }

        private boolean readVetoes(Menu menu) {
            menu.vetoes = number();
            return !isOutside(menu.vetoes, 0, 3) && skip(';');
        }

        private boolean readShuts(Menu menu) {
            menu.shuts = number();
            return !isOutside(menu.shuts, 1, 99) && skip(';');
        }

        private boolean readHunger(Menu menu) {
            menu.hunger = number();
            return !isOutside(menu.hunger, 1, 60) && skip(';');
        }

        /** One or two figures; a third one stays, and is then where another letter is due. */
        private int number() {
            int first = figure();
            if (first == NOTHING) return NOTHING;
            int second = figure();
            return second == NOTHING ? first : 10 * first + second;
        }

        private int figure() {
            int letter = peek();
            if (isOutside(letter, '0', '9')) return NOTHING;
            place++;
            return letter - '0';
        }

        private boolean skip(int letter) {
            if (peek() != letter) return false;
            place++;
            return true;
        }

        private int peek() {
            return place >= 0 && place < length && place < letters.length ? letters[place] : NOTHING;
        }
    }

    /** What acts change. */
    private static final class Table {
        int minute;
        int vetoed;
        int ordered = NOTHING;
        /** Two bits for each guest, as a guest has three vetoes at most: so a table is copied by numbers alone. */
        private int spent;

        void clear() {
            minute = 0;
            vetoed = 0;
            ordered = NOTHING;
            spent = 0;
        }

        void copyFrom(Table other) {
            minute = other.minute;
            vetoed = other.vetoed;
            ordered = other.ordered;
            spent = other.spent;
        }

        boolean isOrdered() {
            return ordered != NOTHING;
        }

        boolean isVetoed(int d) {
            return (vetoed >> d & 1) == 1;
        }

        int spentBy(int i) {
            return spent >> (2 * i) & 3;
        }

        void strike(int i, int d) {
            vetoed |= 1 << d;
            spent += 1 << (2 * i);
        }
    }

    /** Tables one upon the other; a full pile lets the lowest one go. */
    private static final class Pile {
        int size;
        private final Table[] tables;

        Pile(int limit) {
            tables = new Table[limit > 0 ? limit : 1];
            for (int k = 0; k < tables.length; k++) tables[k] = new Table();
        }

        void push(Table table) {
            if (size >= tables.length) dropLowest();
            copy(table, get(size));
            size++;
        }

        boolean popInto(Table table) {
            if (size < 1) return false;
            size--;
            copy(get(size), table);
            return true;
        }

        private void dropLowest() {
            for (int k = 1; k < tables.length; k++) copy(get(k), get(k - 1));
            size = tables.length - 1;
        }

        private Table get(int k) {
            return k >= 0 && k < tables.length ? tables[k] : null;
        }

        private static void copy(Table from, Table to) {
            if (from != null && to != null) to.copyFrom(from);
        }
    }

    /** That a guest gave a heart, or not, and what it was like then. */
    private static final class Note {
        int guest;
        int dish;
        boolean heart;
        int minute;
        int vetoed;
    }

    private static final class Notes {
        int size;
        private final Note[] notes = new Note[HEARD_LIMIT];

        Notes() {
            for (int k = 0; k < notes.length; k++) notes[k] = new Note();
        }

        Note get(int k) {
            return k >= 0 && k < notes.length ? notes[k] : null;
        }

        Note next() {
            Note note = get(size);
            if (note != null) size++;
            return note;
        }
    }

    /** What dishes are worth at a minute, and what follows for those that are left. */
    private static final class Moment {
        Menu menu;
        int minute;
        int left;

        Moment(Menu menu) {
            this.menu = menu;
        }

        int value(int i, int d) {
            int told = menu.toldWorth(i, d);
            if (told == 0 || menu.hunger < 1) return told;
            return Math.min(TOP_WORTH, told + minute / menu.hunger);
        }

        int together(int d, int without) {
            int sum = 0;
            for (int i = 0; i < menu.guests; i++) {
                if (i != without) sum += value(i, d);
            }
            return sum;
        }

        int leastWorth(int d) {
            int least = TOP_WORTH;
            for (int i = 0; i < menu.guests; i++) least = Math.min(least, value(i, d));
            return least;
        }

        int opponent(int d) {
            int who = 0;
            for (int i = 1; i < menu.guests; i++) {
                if (value(i, d) < value(who, d)) who = i;
            }
            return who;
        }

        int favourite(int i) {
            int best = NOTHING;
            for (int d = 0; d < menu.dishes; d++) {
                if (isIn(left, d) && (best == NOTHING || value(i, d) > value(i, best))) best = d;
            }
            return best;
        }

        int leastLiked(int i, int among) {
            int worst = NOTHING;
            for (int d = 0; d < menu.dishes; d++) {
                if (isIn(among, d) && (worst == NOTHING || value(i, d) <= value(i, worst))) worst = d;
            }
            return worst;
        }

        boolean gives(int kind, int i, int d) {
            if (!isIn(left, d)) return false;
            switch (kind) {
                case FRANK: return value(i, d) >= FRANK_HEART;
                case POLITE: return true;
                case CHOOSY: return value(i, d) > 0 && favourite(i) == d;
                case SILENT: default: return false;
            }
        }

        int heartsOf(int i) {
            int hearts = 0;
            for (int d = 0; d < menu.dishes; d++) {
                if (gives(menu.kindOf(i), i, d)) hearts |= 1 << d;
            }
            return hearts;
        }

        int heartsOn(int d) {
            int hearts = 0;
            for (int i = 0; i < menu.guests; i++) {
                if (gives(menu.kindOf(i), i, d)) hearts++;
            }
            return hearts;
        }

        int mostDish(int without) {
            int best = NOTHING;
            for (int d = 0; d < menu.dishes; d++) {
                if (!isIn(left, d)) continue;
                if (best == NOTHING || together(d, without) > together(best, without)) best = d;
            }
            return best;
        }

        int fairDish() {
            int best = NOTHING;
            int bestRank = NOTHING;
            for (int d = 0; d < menu.dishes; d++) {
                if (!isIn(left, d) || fairRank(d) <= bestRank) continue;
                best = d;
                bestRank = fairRank(d);
            }
            return best;
        }

        /** All together are worth less than 100 (nine guests, 9 each), so the least worth goes before that. */
        private int fairRank(int d) {
            return 100 * leastWorth(d) + together(d, NOBODY);
        }

        int lead(int a, int b) {
            int lead = 0;
            for (int i = 0; i < menu.guests; i++) lead += Integer.compare(value(i, a), value(i, b));
            return lead;
        }

        int winner() {
            for (int d = 0; d < menu.dishes; d++) {
                if (isIn(left, d) && winsAgainstAll(d)) return d;
            }
            return NONE;
        }

        private boolean winsAgainstAll(int d) {
            for (int other = 0; other < menu.dishes; other++) {
                if (other != d && isIn(left, other) && lead(d, other) <= 0) return false;
            }
            return true;
        }

        int nobodysWorst() {
            if (Integer.bitCount(left) < 2) return left;
            int bits = left;
            for (int i = 0; i < menu.guests; i++) bits &= ~worstAlone(i);
            return bits;
        }

        /** The dish that is worth less to a guest than each other one, as a bit; 0 if several are worth least. */
        private int worstAlone(int i) {
            int worst = leastLiked(i, left);
            int next = leastLiked(i, left & ~(1 << worst));
            return value(i, worst) < value(i, next) ? 1 << worst : 0;
        }

        int lastStanding(int first) {
            int rest = left;
            for (int turn = 0; turn < DISH_LIMIT && Integer.bitCount(rest) > 1; turn++) {
                int who = menu.guests > 0 ? (first + turn) % menu.guests : 0;
                rest &= ~(1 << leastLiked(who, rest));
            }
            return leastLiked(first, rest);
        }

        /** 8 times the lower dish and the higher one; nothing, where but one is left. */
        int bestPair() {
            int best = NOTHING;
            int bestWorth = NOTHING;
            for (int a = 0; a < menu.dishes; a++) {
                for (int b = a + 1; b < menu.dishes; b++) {
                    if (!isIn(left, a) || !isIn(left, b) || pairWorth(a, b) <= bestWorth) continue;
                    best = 8 * a + b;
                    bestWorth = pairWorth(a, b);
                }
            }
            return best;
        }

        int pairWorth(int a, int b) {
            int sum = 0;
            for (int i = 0; i < menu.guests; i++) sum += Math.max(value(i, a), value(i, b));
            return sum;
        }

        int welcomeDishes() {
            int welcome = 0;
            for (int d = 0; d < menu.dishes; d++) {
                if (isIn(left, d) && leastWorth(d) > 0) welcome++;
            }
            return welcome;
        }

        private static boolean isIn(int bits, int d) {
            return (bits >> d & 1) == 1;
        }
    }
}
