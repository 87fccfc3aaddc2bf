import java.math.BigInteger;
import java.util.ArrayDeque;
import java.util.ArrayList;
import java.util.Arrays;
import java.util.Collections;
import java.util.Comparator;
import java.util.Deque;
import java.util.HashSet;
import java.util.List;
import java.util.Optional;
import java.util.Set;
import java.util.function.IntUnaryOperator;
import java.util.regex.Matcher;
import java.util.regex.Pattern;
import java.util.stream.Collectors;
import java.util.stream.IntStream;

/**
 * The document a second time, written from its words with sets, lists and patterns, and sharing nothing with
 * the class: ModelTest holds the one against the other.
 */
final class Model {
    static final int BAD = -1, NO = -2, FULL = -3, NONE = -4;

    /** minute, what is vetoed by whom, what is ordered (NONE). */
    private record State(int minute, List<int[]> vetoes, int ordered) {
        Set<Integer> gone() {
            return vetoes.stream().map(v -> v[1]).collect(Collectors.toSet());
        }

        long spentBy(int i) {
            return vetoes.stream().filter(v -> v[0] == i).count();
        }

        State with(int i, int d) {
            List<int[]> more = new ArrayList<>(vetoes);
            more.add(new int[] {i, d});
            return new State(minute, more, ordered);
        }
    }

    private record Heard(int i, int d, boolean heart, State then) { }

    private static final class Laid {
        int dishes = 4, vetoes = 1, shuts = 90, hunger = 20;
        List<String> guests = new ArrayList<>();
        int[] takes = {20, 20, 20, 20, 20, 20};
        int fault = NONE;
    }

    private String text = "";
    private Laid laid = read("d4;g05371;g18806;g22496;g37027;g04444;g09153;t0,30;t2,45;v1;s90;h20;");
    private State now = new State(0, List.of(), NONE);
    private List<State> past = new ArrayList<>();
    private Deque<State> kept = new ArrayDeque<>();
    private List<Heard> notes = new ArrayList<>();

    // ---- the text

    private static Laid read(String text) {
        Laid laid = new Laid();
        int place = 0;
        boolean other = false;
        while (place < text.length()) {
            int end = text.indexOf(';', place);
            if (end < 0 || !item(laid, text.substring(place, end), other)) {
                laid.fault = place;
                return laid;
            }
            other |= text.charAt(place) != 'd';
            place = end + 1;
        }
        return laid;
    }

    private static boolean item(Laid laid, String item, boolean other) {
        Matcher m = Pattern.compile("([dvsh])([0-9]{1,2})|(t)([0-9]{1,2}),([0-9]{1,2})|(g)([0-3])([0-9]+)").matcher(item);
        if (!m.matches()) return false;
        if (m.group(6) != null) {
            if (laid.guests.size() == 9 || m.group(8).length() != laid.dishes) return false;
            laid.guests.add(m.group(7) + m.group(8));
            return true;
        }
        if (m.group(3) != null) {
            int d = Integer.parseInt(m.group(4)), t = Integer.parseInt(m.group(5));
            if (d >= laid.dishes || t < 1 || t > 60) return false;
            laid.takes[d] = t;
            return true;
        }
        int n = Integer.parseInt(m.group(2));
        switch (m.group(1)) {
            case "d":
                laid.dishes = n;
                return !other && n >= 2 && n <= 6;
            case "v":
                laid.vetoes = n;
                return n <= 3;
            case "s":
                laid.shuts = n;
                return n >= 1;
            default:
                laid.hunger = n;
                return n >= 1 && n <= 60;
        }
    }

    // ---- what is worth how much

    private int worthAt(int i, int d, int minute) {
        int told = laid.guests.get(i).charAt(1 + d) - '0';
        if (told == 0) return 0;
        int worth = told;
        for (int m = 1; m <= minute; m++) {
            if (m % laid.hunger == 0 && worth < 9) worth++;
        }
        return worth;
    }

    private List<Integer> left(State s) {
        return IntStream.range(0, laid.dishes).filter(d -> !s.gone().contains(d)).boxed().collect(Collectors.toList());
    }

    private List<Integer> all() {
        return IntStream.range(0, laid.guests.size()).boxed().collect(Collectors.toList());
    }

    private int sum(List<Integer> guests, int d, int minute) {
        return guests.stream().mapToInt(i -> worthAt(i, d, minute)).sum();
    }

    private int least(int d, int minute) {
        return all().stream().mapToInt(i -> worthAt(i, d, minute)).min().getAsInt();
    }

    /** The first of a list for which a number is greatest. */
    private static int greatest(List<Integer> of, IntUnaryOperator number) {
        int best = of.get(0);
        for (int x : of) if (number.applyAsInt(x) > number.applyAsInt(best)) best = x;
        return best;
    }

    private int mostOf(State s, List<Integer> guests) {
        return greatest(left(s), d -> sum(guests, d, s.minute));
    }

    private int leastLiked(int i, List<Integer> of, int minute) {
        List<Integer> down = new ArrayList<>(of);
        down.sort(Comparator.reverseOrder());
        return greatest(down, d -> -worthAt(i, d, minute));
    }

    private boolean heart(int kind, int i, int d, State s) {
        if (!left(s).contains(d)) return false;
        if (kind == 0) return worthAt(i, d, s.minute) >= 5;
        if (kind == 3) {
            return worthAt(i, d, s.minute) > 0 && greatest(left(s), e -> worthAt(i, e, s.minute)) == d;
        }
        return kind == 1;
    }

    private int kind(int i) {
        return laid.guests.get(i).charAt(0) - '0';
    }

    private static int bits(List<Integer> of) {
        return of.stream().mapToInt(d -> 1 << d).sum();
    }

    private boolean isGuest(int i) {
        return i >= 0 && i < laid.guests.size();
    }

    private boolean isDish(int d) {
        return d >= 0 && d < laid.dishes;
    }

    private static boolean in(int n, int low, int high) {
        return low <= n && n <= high;
    }

    private long vetoesLeft(State s, int i) {
        return laid.vetoes - s.spentBy(i);
    }

    // ---- the calls

    int call(String name, int... a) {
        switch (name) {
            case "write": return write(a[0]);
            case "wipe": return wipe();
            case "fault": return read(text).fault;
            case "lay": return lay();
            case "guest": return guest(a[0], a[1]);
            case "dish": return dish(a[0], a[1]);
            case "worth": return isGuest(a[0]) && isDish(a[1]) ? worthAt(a[0], a[1], now.minute) : BAD;
            case "pass": return pass(a[0]);
            case "veto": return veto(a[0], a[1]);
            case "order": return order(a[0]);
            case "undo": return undo();
            case "most": return most(a[0]);
            case "fair": return fair(a[0]);
            case "beats": return beats(a[0], a[1]);
            case "champion": return champion();
            case "middle": return middle();
            case "struck": return struck(a[0]);
            case "two": return two(a[0]);
            case "houses": return houses(a[0]);
            case "waits": return waits(a[0], a[1]);
            case "heard": return heard(a[0], a[1], a[2]);
            case "forget": return forget();
            case "may": return may(a[0]);
            case "suits": return suits(a[0]);
            case "against": return against(a[0], a[1]);
            case "ask": return ask(a[0]);
            case "wheel": return wheel(a[0], a[1]);
            case "evening": return evening(a[0], a[1], a[2]);
            case "keep": return keep();
            case "back": return back();
            case "count": return count(a[0]);
            default: throw new IllegalArgumentException(name);
        }
    }

    private int write(int letter) {
        if (!in(letter, 32, 126)) return BAD;
        if (text.length() == 200) return FULL;
        text += (char) letter;
        return text.length();
    }

    private int wipe() {
        int was = text.length();
        text = "";
        return was;
    }

    private int lay() {
        Laid next = read(text);
        if (next.fault != NONE || next.guests.isEmpty()) return NO;
        laid = next;
        now = new State(0, List.of(), NONE);
        past.clear();
        kept.clear();
        notes.clear();
        return laid.guests.size();
    }

    private int guest(int i, int what) {
        if (!isGuest(i) || !in(what, 0, 3)) return BAD;
        if (what == 0) return kind(i);
        if (what == 1) return (int) vetoesLeft(now, i);
        if (what == 3) return greatest(left(now), d -> worthAt(i, d, now.minute));
        return bits(left(now).stream().filter(d -> heart(kind(i), i, d, now)).collect(Collectors.toList()));
    }

    private int dish(int d, int what) {
        if (!isDish(d) || !in(what, 0, 3)) return BAD;
        if (what == 0) return laid.takes[d];
        if (what == 1) return now.gone().contains(d) ? 1 : 0;
        if (what == 3) return sum(all(), d, now.minute);
        return (int) all().stream().filter(i -> heart(kind(i), i, d, now)).count();
    }

    private void act(State next) {
        past.add(now);
        if (past.size() > 8) past.remove(0);
        now = next;
    }

    private int pass(int n) {
        if (!in(n, 1, 30)) return BAD;
        if (now.minute + n > 99 || now.ordered != NONE) return NO;
        act(new State(now.minute + n, now.vetoes, NONE));
        return now.minute;
    }

    private int veto(int i, int d) {
        if (!isGuest(i) || !isDish(d)) return BAD;
        if (now.ordered != NONE || !left(now).contains(d) || left(now).size() == 1 || vetoesLeft(now, i) == 0) return NO;
        act(now.with(i, d));
        return left(now).size();
    }

    private int order(int d) {
        if (!isDish(d)) return BAD;
        int comes = now.minute + laid.takes[d];
        if (now.ordered != NONE || !left(now).contains(d) || comes > laid.shuts) return NO;
        act(new State(now.minute, now.vetoes, d));
        return comes;
    }

    private int undo() {
        if (past.isEmpty()) return NO;
        now = past.remove(past.size() - 1);
        return past.size();
    }

    private int most(int what) {
        if (!in(what, 0, 1)) return BAD;
        int d = mostOf(now, all());
        return what == 0 ? d : sum(all(), d, now.minute);
    }

    private int fair(int what) {
        if (!in(what, 0, 1)) return BAD;
        int top = left(now).stream().mapToInt(d -> least(d, now.minute)).max().getAsInt();
        List<Integer> several = left(now).stream().filter(d -> least(d, now.minute) == top).collect(Collectors.toList());
        return what == 1 ? top : greatest(several, d -> sum(all(), d, now.minute));
    }

    private int moreLess(int a, int b) {
        int more = (int) all().stream().filter(i -> worthAt(i, a, now.minute) > worthAt(i, b, now.minute)).count();
        int less = (int) all().stream().filter(i -> worthAt(i, a, now.minute) < worthAt(i, b, now.minute)).count();
        return more - less;
    }

    private int beats(int a, int b) {
        if (a == b || !left(now).contains(a) || !left(now).contains(b)) return BAD;
        return 50 + moreLess(a, b);
    }

    private int champion() {
        Optional<Integer> best = left(now).stream()
                .filter(a -> left(now).stream().allMatch(b -> a.equals(b) || moreLess(a, b) > 0)).findFirst();
        return best.orElse(NONE);
    }

    private int middle() {
        List<Integer> left = left(now);
        if (left.size() == 1) return bits(left);
        return bits(left.stream().filter(d -> all().stream().noneMatch(i -> left.stream()
                .allMatch(e -> e.equals(d) || worthAt(i, d, now.minute) < worthAt(i, e, now.minute))))
                .collect(Collectors.toList()));
    }

    private int struck(int i) {
        if (!isGuest(i)) return BAD;
        List<Integer> rest = left(now);
        List<Integer> round = new ArrayList<>(all());
        Collections.rotate(round, -i);
        while (rest.size() > 1) {
            int who = round.remove(0);
            rest.remove((Integer) leastLiked(who, rest, now.minute));
            round.add(who);
        }
        return rest.get(0);
    }

    private int[] pair() {
        int[] best = null;
        for (int a : left(now)) {
            for (int b : left(now)) {
                if (a >= b) continue;
                int worth = all().stream()
                        .mapToInt(i -> Math.max(worthAt(i, a, now.minute), worthAt(i, b, now.minute))).sum();
                if (best == null || worth > best[1]) best = new int[] {8 * a + b, worth};
            }
        }
        return best;
    }

    private int two(int what) {
        if (!in(what, 0, 1)) return BAD;
        return pair() == null ? NONE : pair()[what];
    }

    private int houses(int c) {
        if (!in(c, 0, 99)) return BAD;
        return pair() != null && pair()[1] - c > most(1) ? 1 : 2;
    }

    private int waits(int d, int what) {
        if (!isDish(d) || !in(what, 0, 1)) return BAD;
        if (now.ordered != NONE || !left(now).contains(d)) return NONE;
        List<Integer> minutes = IntStream.rangeClosed(now.minute, 99).filter(m -> m + laid.takes[d] <= laid.shuts)
                .boxed().collect(Collectors.toList());
        if (minutes.isEmpty()) return NONE;
        int best = greatest(minutes, m -> sum(all(), d, m));
        return what == 0 ? best : sum(all(), d, best);
    }

    private int heard(int i, int d, int heart) {
        if (!isGuest(i) || !isDish(d) || !in(heart, 0, 1)) return BAD;
        if (notes.size() == 8) return FULL;
        notes.add(new Heard(i, d, heart == 1, now));
        return notes.size();
    }

    private int forget() {
        int were = notes.size();
        notes = new ArrayList<>();
        return were;
    }

    private int may(int i) {
        if (!isGuest(i)) return BAD;
        return bits(IntStream.range(0, 4).boxed().filter(kind -> notes.stream().filter(h -> h.i == i)
                .allMatch(h -> heart(kind, i, h.d, h.then) == h.heart)).collect(Collectors.toList()));
    }

    private int suits(int d) {
        if (!left(now).contains(d)) return BAD;
        int most = most(0);
        return bits(all().stream().filter(i -> !(worthAt(i, d, now.minute) < worthAt(i, most, now.minute)))
                .collect(Collectors.toList()));
    }

    private int against(int d, int what) {
        if (!isDish(d) || !in(what, 0, 1)) return BAD;
        return what == 1 ? least(d, now.minute) : greatest(all(), i -> -worthAt(i, d, now.minute));
    }

    private int ask(int n) {
        if (!in(n, 1, 9)) return BAD;
        for (int i : all()) {
            List<Integer> others = all();
            others.remove((Integer) i);
            if (i < n && mostOf(now, others) != most(0)) return i;
        }
        return NONE;
    }

    /** By going through all that can come up: n dishes out of those that are left, one after the other. */
    private int wheel(int n, int part) {
        if (!in(n, 0, 6) || !in(part, 0, 1)) return BAD;
        int size = left(now).size();
        Set<Integer> welcome = new HashSet<>();
        for (int k = 0; k < size; k++) if (least(left(now).get(k), now.minute) > 0) welcome.add(k);
        int all = 1;
        for (int k = 0; k < n; k++) all *= size;
        int taken = 0;
        for (int way = 0; way < all; way++) {
            boolean any = false;
            for (int k = 0, rest = way; k < n; k++, rest /= size) any |= welcome.contains(rest % size);
            if (any) taken++;
        }
        BigInteger above = BigInteger.valueOf(taken), below = BigInteger.valueOf(all);
        return (part == 0 ? above : below).divide(above.gcd(below)).intValue();
    }

    private int evening(int z, int n, int what) {
        if (!in(z, 0, 9999) || !in(n, 1, 20) || !in(what, 0, 1)) return BAD;
        if (now.ordered != NONE) return NO;
        State then = now;
        for (int time = 0; time < n; time++) {
            BigInteger x = BigInteger.valueOf(7919).multiply(BigInteger.valueOf(z))
                    .add(BigInteger.valueOf(6151).multiply(BigInteger.valueOf(time))).add(BigInteger.ONE);
            int draw = x.pow(2).mod(BigInteger.valueOf(65521)).shiftRight(1).intValueExact();
            int minute = then.minute + 1 + draw % 5;
            if (minute <= 99) then = new State(minute, then.vetoes, NONE);
            int who = (draw >> 3) % laid.guests.size();
            if (vetoesLeft(then, who) > 0 && left(then).size() >= 2 && (draw >> 7) % 3 == 0) {
                then = then.with(who, leastLiked(who, left(then), then.minute));
            }
        }
        return what == 0 ? bits(left(then)) : mostOf(then, all());
    }

    private int keep() {
        if (kept.size() == 2) return FULL;
        kept.push(now);
        return kept.size();
    }

    private int back() {
        if (kept.isEmpty()) return NO;
        now = kept.pop();
        past.clear();
        return kept.size();
    }

    private int count(int what) {
        int[] counts = {laid.guests.size(), laid.dishes, now.minute, now.gone().size(), now.ordered, notes.size(),
            past.size(), kept.size(), text.length()};
        return in(what, 0, counts.length - 1) ? counts[what] : BAD;
    }

    @Override
    public String toString() {
        return text + " " + now.minute + " " + now.gone() + " " + Arrays.toString(laid.takes);
    }
}
