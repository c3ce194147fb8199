import java.util.ArrayDeque;
import java.util.ArrayList;
import java.util.Deque;
import java.util.List;
import java.util.Random;
import java.util.function.Consumer;

/** Random streets and acts, each answer held against a second program that reckons word by word (fixed seeds). */
public final class ModelTest {
    private static final Kit KIT = new Kit();

    public static void main(String[] args) {
        for (int seed = 0; seed < 400; seed++) {
            KIT.part("seed " + seed);
            new ModelTest(new Random(seed)).run();
        }
        KIT.finish();
    }

    private final Random random;
    private final int[] wide;
    private final int[][] houses;
    private final int[][] drains;
    private final int[][] crests;
    private final int[][] gauges;
    private final int people;
    private final int rate;
    private BagsRiver x;
    private final String streetText;
    /** All acts so far: each comparison is of a new object that has done them, as an object is used for 512 calls alone. */
    private final List<Consumer<BagsRiver>> acts = new ArrayList<>();
    private Now now = new Now();
    private final Deque<Now> past = new ArrayDeque<>();

    /** What changes; copied as a whole. */
    private static final class Now {
        int hour;
        int sand;
        int ready;
        int tired;
        int rain;
        int carried;
        int[] post = new int[3];
        int[] wallBags = new int[5];
        boolean[] quit = new boolean[5];
        int[] drainBags = new int[6];
        boolean[] up = new boolean[10];
        int[] flooded = new int[10];

        Now copy() {
            Now n = new Now();
            n.hour = hour;
            n.sand = sand;
            n.ready = ready;
            n.tired = tired;
            n.rain = rain;
            n.carried = carried;
            n.post = post.clone();
            n.wallBags = wallBags.clone();
            n.quit = quit.clone();
            n.drainBags = drainBags.clone();
            n.up = up.clone();
            n.flooded = flooded.clone();
            return n;
        }
    }

    private ModelTest(Random random) {
        this.random = random;
        wide = new int[random.nextInt(6)];
        houses = new int[random.nextInt(11)][];
        drains = new int[wide.length == 0 ? 0 : random.nextInt(7)][];
        crests = new int[random.nextInt(7)][];
        gauges = new int[random.nextInt(9)][];
        people = random.nextInt(4) == 0 ? 1 + random.nextInt(60) : 5 + random.nextInt(20);
        rate = 1 + random.nextInt(20);
        now.sand = random.nextInt(4) == 0 ? random.nextInt(50) : random.nextInt(1000);
        streetText = street();
        java.util.Arrays.fill(now.flooded, -1);
    }

    private int upTo(int most) {
        return random.nextInt(most + 1);
    }

    private String street() {
        StringBuilder text = new StringBuilder("people " + people + ";rate " + rate + ";sand " + now.sand + ";");
        int high = 2 + upTo(28);
        for (int w = 0; w < wide.length; w++) {
            wide[w] = 1 + upTo(random.nextBoolean() ? 2 : 19);
            text.append("wall w" + (char) ('a' + w) + " " + wide[w] + ";");
        }
        for (int h = 0; h < houses.length; h++) {
            int wall = upTo(wide.length) - 1;
            houses[h] = new int[] {wall, 1 + upTo(random.nextBoolean() ? 4 : 98), upTo(high)};
            String where = wall < 0 ? "outside" : "w" + (char) ('a' + wall);
            text.append("house h" + (char) ('a' + h) + " " + where + " " + houses[h][1] + " " + houses[h][2] + ";");
        }
        for (int d = 0; d < drains.length; d++) {
            drains[d] = new int[] {random.nextInt(wide.length), upTo(high), 1 + upTo(39)};
            text.append("drain d" + (char) ('a' + d) + " w" + (char) ('a' + drains[d][0]) + " " + drains[d][1] + " "
                + drains[d][2] + ";");
        }
        pairs(crests, "crest", high, 1, 98, text);
        pairs(gauges, "gauge", 47, 0, high, text);
        return text.toString();
    }

    private void pairs(int[][] into, String sort, int mostKey, int least, int more, StringBuilder text) {
        List<Integer> keys = new ArrayList<>();
        for (int k = 0; k <= Math.max(mostKey, 10); k++) {
            keys.add(k);
        }
        java.util.Collections.shuffle(keys, random);
        for (int i = 0; i < into.length; i++) {
            into[i] = new int[] {keys.get(i), least + upTo(more)};
            text.append(sort + " " + into[i][0] + " " + into[i][1] + ";");
        }
    }

    private void run() {
        x = anew();
        compare();
        for (int i = 0; i < 14; i++) {
            x = anew();
            act();
            compare();
            if (i % 3 == 0) {
                x = anew();
                compareReckonings();
            }
        }
    }

    private BagsRiver anew() {
        BagsRiver fresh = Kit.on(streetText);
        for (Consumer<BagsRiver> act : acts) {
            act.accept(fresh);
        }
        return fresh;
    }

    private void act() {
        Now before = now.copy();
        switch (random.nextInt(8)) {
            case 0: case 1: case 2:
                post(before);
                break;
            case 3:
                quit(before, upTo(5) - 1);
                break;
            case 4:
                up(before, upTo(10) - 1);
                break;
            case 5:
                undo();
                break;
            case 6:
                drawn(before, 1 + upTo(5), random.nextInt());
                break;
            default:
                hours(before, 1 + upTo(5));
                break;
        }
    }

    private void keep(Now before) {
        past.push(before);
        if (past.size() > 8) {
            past.removeLast();
        }
    }

    private void undo() {
        int left = past.isEmpty() ? -1 : past.size() - 1;
        KIT.same("undo", x.undo(), left);
        acts.add(BagsRiver::undo);
        if (left >= 0) {
            now = past.pop();
        }
    }

    private void post(Now before) {
        int f = upTo(people);
        int c = upTo(people - f) + (random.nextInt(9) == 0 ? 1 : 0);
        int w = random.nextInt(3) == 0 ? 9 + upTo(6) : upTo(5) - 1;
        boolean known = w >= 0 && w < wide.length || w >= 10 && w - 10 < drains.length;
        int due = f + c > people || !known ? -1 : java.util.Arrays.equals(now.post, new int[] {f, c, w}) ? 1 : 0;
        KIT.same("post(" + f + ", " + c + ", " + w + ")", x.post(f, c, w), due);
        acts.add(y -> y.post(f, c, w));
        if (due == 0) {
            now.post = new int[] {f, c, w};
            keep(before);
        }
    }

    private void quit(Now before, int w) {
        int due = w < 0 || w >= wide.length ? -1 : now.quit[w] ? 1 : 0;
        KIT.same("quit(" + w + ")", x.quit(w), due);
        acts.add(y -> y.quit(w));
        if (due == 0) {
            now.quit[w] = true;
            now.ready += now.wallBags[w] / 2;
            now.wallBags[w] = 0;
            keep(before);
        }
    }

    private void up(Now before, int h) {
        int due = h < 0 || h >= houses.length ? -1 : now.flooded[h] >= 0 ? 1 : now.up[h] ? 2 : 0;
        KIT.same("up(" + h + ")", x.up(h), due);
        acts.add(y -> y.up(h));
        if (due == 0) {
            now.up[h] = true;
            now.tired++;
            keep(before);
        }
    }

    private void hours(Now before, int n) {
        int due = Math.min(n, 48 - now.hour);
        KIT.same("hours(" + n + ")", x.hours(n), due);
        acts.add(y -> y.hours(n));
        for (int i = 0; i < due; i++) {
            hour(now);
        }
        if (due > 0) {
            keep(before);
        }
    }

    private void drawn(Now before, int n, int seed) {
        int due = Math.min(n, 48 - now.hour);
        KIT.same("drawn(" + n + ", " + seed + ")", x.drawn(n, seed), due);
        acts.add(y -> y.drawn(n, seed));
        draw(now, n, seed);
        if (due > 0) {
            keep(before);
        }
    }

    private void draw(Now at, int n, int seed) {
        int s = seed;
        for (int i = 0; i < n && at.hour < 48; i++) {
            s = s * 1103515245 + 12345;
            at.rain += (s >>> 8) % 6 == 0 ? 1 : 0;
            hour(at);
        }
    }

    private int takes(int w, int inches) {
        int bags = 0;
        for (int i = 1; i <= inches; i++) {
            bags += wide[w] * i;
        }
        return bags;
    }

    private int high(Now at, int w) {
        int high = 0;
        while (takes(w, high + 1) <= at.wallBags[w]) {
            high++;
        }
        return at.quit[w] ? 0 : high;
    }

    private int river(Now at, int hour) {
        int latest = -1;
        int inch = 0;
        for (int[] g : gauges) {
            if (g[0] <= hour && g[0] > latest) {
                latest = g[0];
                inch = g[1];
            }
        }
        return inch + at.rain;
    }

    private boolean floods(Now at, int h, int river) {
        int w = houses[h][0];
        if (river <= houses[h][2]) {
            return false;
        }
        boolean leaks = false;
        for (int d = 0; d < drains.length; d++) {
            leaks |= drains[d][0] == w && drains[d][1] <= river && at.drainBags[d] < drains[d][2];
        }
        return w < 0 || at.quit[w] || high(at, w) < river || leaks;
    }

    private int work(Now at) {
        int each = Math.max(1, rate - at.tired / 2);
        int filled = Math.min(at.sand, at.post[0] / 2 * each);
        at.sand -= filled;
        at.ready += filled;
        int to = at.post[2];
        boolean none = to < 10 && (wide.length == 0 || at.quit[to]);
        int moved = none ? 0 : Math.min(at.ready, at.post[1] * each);
        at.ready -= moved;
        at.carried += moved;
        if (to < 10) {
            at.wallBags[to] += moved;
        } else {
            at.drainBags[to - 10] += moved;
        }
        at.tired = at.post[0] + at.post[1] > 0 ? at.tired + 1 : Math.max(0, at.tired - 2);
        return moved;
    }

    private void hour(Now at) {
        work(at);
        for (int h = 0; h < houses.length; h++) {
            if (at.flooded[h] < 0 && floods(at, h, river(at, at.hour))) {
                at.flooded[h] = at.hour;
            }
        }
        at.hour++;
    }

    private int saved(Now at) {
        int sum = 0;
        for (int h = 0; h < houses.length; h++) {
            sum += at.flooded[h] < 0 ? houses[h][1] : at.up[h] ? houses[h][1] / 2 : 0;
        }
        return sum;
    }

    private void compare() {
        int floods = 0;
        int safe = 0;
        for (int h = 0; h < houses.length; h++) {
            boolean flooded = now.flooded[h] >= 0;
            floods |= flooded ? 1 << h : 0;
            safe |= !flooded && !floods(now, h, river(now, now.hour)) ? 1 << h : 0;
            int[] due = {houses[h][0], houses[h][1], houses[h][2], flooded ? 1 : 0, now.flooded[h], now.up[h] ? 1 : 0};
            for (int what = 0; what < 6; what++) {
                KIT.same("house(" + h + ", " + what + ")", x.house(h, what), due[what]);
            }
        }
        int[] nows = {now.hour, river(now, now.hour), now.sand, now.ready, now.tired,
            Math.max(1, rate - now.tired / 2), floods, now.rain, saved(now), now.carried};
        for (int what = 0; what < 10; what++) {
            KIT.same("now(" + what + ")", x.now(what), nows[what]);
        }
        for (int what = 0; what < 3; what++) {
            KIT.same("posted(" + what + ")", x.posted(what), now.post[what]);
        }
        for (int w = 0; w < wide.length; w++) {
            KIT.same("wall " + w + " bags", x.wall(w, 1), now.wallBags[w]);
            KIT.same("wall " + w + " height", x.wall(w, 2), high(now, w));
            KIT.same("wall " + w + " quit", x.wall(w, 3), now.quit[w] ? 1 : 0);
        }
        for (int d = 0; d < drains.length; d++) {
            KIT.same("drain " + d + " bags", x.drain(d, 3), now.drainBags[d]);
            KIT.same("drain " + d + " stopped", x.drain(d, 4), now.drainBags[d] >= drains[d][2] ? 1 : 0);
        }
        Kit.sentence(x, "safe");
        KIT.same("safe", Kit.saidBits(x), safe);
    }

    private void compareReckonings() {
        foreseen();
        crew();
        if (crests.length > 0) {
            plan(upTo(random.nextBoolean() ? 999 : 150));
            sure(upTo(20), upTo(20));
        }
        for (int w = 0; w < wide.length; w++) {
            game(w, random.nextBoolean() ? upTo(20) : upTo(999));
            int h = upTo(60);
            KIT.same("takes(" + w + ", " + h + ")", x.takes(w, h), takes(w, h));
            lacksAndLeaks(w, upTo(20));
        }
        due(upTo(999));
        carpets(upTo(10));
        book();
    }

    private void foreseen() {
        Now then = now.copy();
        while (then.hour < 48) {
            hour(then);
        }
        KIT.same("last", x.last(), saved(then));
        for (int h = 0; h < houses.length; h++) {
            KIT.same("when(" + h + ")", x.when(h), now.flooded[h] >= 0 ? -1 : then.flooded[h]);
        }
        int seed = random.nextInt();
        int n = 1 + upTo(29);
        int[] floods = new int[houses.length];
        for (int i = 0; i < n; i++) {
            Now drawn = now.copy();
            draw(drawn, 24, seed + i);
            for (int h = 0; h < houses.length; h++) {
                floods[h] += drawn.flooded[h] >= 0 ? 1 : 0;
            }
        }
        for (int h = 0; h < houses.length; h++) {
            KIT.same("odds(" + h + ", " + n + ", " + seed + ")", x.odds(h, n, seed), floods[h]);
        }
    }

    private void crew() {
        int n = 1 + upTo(5);
        int best = -1;
        int bestF = 0;
        int bestC = 0;
        for (int f = people; f >= 0; f--) {
            for (int c = people - f; c >= 0; c--) {
                Now then = now.copy();
                then.post = new int[] {f, c, now.post[2]};
                int bags = 0;
                for (int i = 0; i < n; i++) {
                    bags += work(then);
                }
                if (bags >= best) {
                    best = bags;
                    bestF = f;
                    bestC = c;
                }
            }
        }
        boolean left = now.hour + n <= 48;
        KIT.same("crew(" + n + ")", x.crew(n), left ? best : -1);
        if (left) {
            KIT.same("crewed(0)", x.crewed(0), bestF);
            KIT.same("crewed(1)", x.crewed(1), bestC);
        }
    }

    private void plan(int b) {
        int all = 0;
        for (int[] crest : crests) {
            all += crest[1];
        }
        List<Integer> heights = new ArrayList<>(List.of(0));
        for (int[] crest : crests) {
            heights.add(crest[0]);
        }
        int[] chosen = new int[wide.length];
        int[] best = null;
        int bestGain = -1;
        int bestBags = -1;
        int many = (int) Math.pow(heights.size(), wide.length);
        for (int code = 0; code < many; code++) {
            int rest = code;
            int bags = 0;
            for (int w = 0; w < wide.length; w++) {
                chosen[w] = heights.get(rest % heights.size());
                rest /= heights.size();
                bags += takes(w, chosen[w]);
            }
            if (bags > b) {
                continue;
            }
            int gain = gain(chosen);
            boolean first = best != null && java.util.Arrays.compare(chosen, best) < 0;
            if (gain > bestGain || gain == bestGain && (bags < bestBags || bags == bestBags && first)) {
                best = chosen.clone();
                bestGain = gain;
                bestBags = bags;
            }
        }
        fraction("plan(" + b + ")", x.plan(b, 0), x.plan(b, 1), bestGain, all);
        for (int w = 0; w < wide.length; w++) {
            KIT.same("planAt(" + w + ")", x.planAt(w), best[w]);
        }
    }

    private int gain(int[] heights) {
        int gain = 0;
        for (int[] crest : crests) {
            for (int[] house : houses) {
                boolean held = house[0] >= 0 && heights[house[0]] >= crest[0];
                gain += crest[0] <= house[2] || held ? crest[1] * house[1] : 0;
            }
        }
        return gain;
    }

    private void fraction(String what, int above, int below, int dueAbove, int dueBelow) {
        KIT.same(what + " as a fraction", (long) above * dueBelow, (long) dueAbove * below);
        KIT.yes(what + " in least terms", below > 0
            && java.math.BigInteger.valueOf(above).gcd(java.math.BigInteger.valueOf(below)).intValue() == 1);
    }

    private void sure(int h, int l) {
        int all = 0;
        int some = 0;
        for (int[] crest : crests) {
            all += crest[0] >= l ? crest[1] : 0;
            some += crest[0] >= l && crest[0] <= h ? crest[1] : 0;
        }
        if (all == 0) {
            KIT.same("sure(" + h + ", " + l + ")", Kit.caught(() -> x.sure(h, l, 0)), Kit.THROWS);
        } else {
            fraction("sure(" + h + ", " + l + ")", x.sure(h, l, 0), x.sure(h, l, 1), some, all);
        }
    }

    private void game(int w, int b) {
        int crest = 0;
        for (int[] c : crests) {
            crest = Math.max(crest, c[0]);
        }
        int needed = takes(w, crest);
        int rests = 0;
        int mostSaved = -1;
        int best = -1;
        for (int bits = 0; bits < 1 << houses.length; bits++) {
            boolean rest = true;
            int saved = 0;
            for (int h = 0; h < houses.length; h++) {
                if (houses[h][0] == w) {
                    int has = has(bits, h, b, needed);
                    saved += has;
                    rest &= has(bits ^ 1 << h, h, b, needed) <= has;
                } else {
                    rest &= (bits >> h & 1) == 0;
                }
            }
            if (rest) {
                rests++;
                if (saved > mostSaved) {
                    mostSaved = saved;
                    best = bits;
                }
            }
        }
        KIT.same("rests(" + w + ", " + b + ")", x.rests(w, b), rests);
        if (rests > 0) {
            KIT.same("walling()", x.walling(), best);
        }
    }

    private int has(int bits, int h, int b, int needed) {
        boolean door = (bits >> h & 1) == 0 && b >= 9;
        return door || Integer.bitCount(bits) * b >= needed ? houses[h][1] : 0;
    }

    private void lacksAndLeaks(int w, int inches) {
        int greatest = 0;
        for (int t = now.hour; t <= 48; t++) {
            greatest = Math.max(greatest, river(now, t));
        }
        int lacks = Math.max(0, takes(w, greatest) - now.wallBags[w]);
        KIT.same("lacks(" + w + ")", x.lacks(w), now.quit[w] ? -1 : lacks);
        int bits = 0;
        for (int d = 0; d < drains.length; d++) {
            boolean leaks = drains[d][0] == w && drains[d][1] <= inches && now.drainBags[d] < drains[d][2];
            bits |= leaks ? 1 << d : 0;
        }
        KIT.same("leaks(" + w + ", " + inches + ")", x.leaks(w, inches), bits);
    }

    private void due(int w) {
        int all = 0;
        for (int[] house : houses) {
            all += house[0] < 0 ? house[1] : 0;
        }
        int[] due = new int[houses.length];
        int left = w;
        for (int h = 0; h < houses.length; h++) {
            due[h] = houses[h][0] < 0 ? w * houses[h][1] / all : -1;
            left -= Math.max(0, due[h]);
        }
        boolean[] got = new boolean[houses.length];
        for (int i = 0; i < left && all > 0; i++) {
            int best = -1;
            for (int h = 0; h < houses.length; h++) {
                boolean open = houses[h][0] < 0 && !got[h];
                if (open && (best < 0 || w * houses[h][1] % all > w * houses[best][1] % all)) {
                    best = h;
                }
            }
            got[best] = true;
            due[best]++;
        }
        for (int h = 0; h < houses.length; h++) {
            KIT.same("due(" + h + ", " + w + ")", x.due(h, w), due[h]);
        }
    }

    private void carpets(int n) {
        int crest = 0;
        for (int[] c : crests) {
            crest = Math.max(crest, c[0]);
        }
        int open = 0;
        for (int h = 0; h < houses.length; h++) {
            open |= now.flooded[h] < 0 && !now.up[h] && houses[h][2] < crest ? 1 << h : 0;
        }
        int many = Math.min(n, Integer.bitCount(open));
        int best = -1;
        int bestBits = 0;
        for (int bits = 0; bits < 1 << houses.length; bits++) {
            if ((bits & ~open) == 0 && Integer.bitCount(bits) == many) {
                int worth = 0;
                for (int h = 0; h < houses.length; h++) {
                    worth += (bits >> h & 1) * (houses[h][1] / 2);
                }
                if (worth > best) {
                    best = worth;
                    bestBits = bits;
                }
            }
        }
        KIT.same("carpets(" + n + ")", x.carpets(n), best);
        KIT.same("carried()", x.carried(), bestBits);
    }

    private void book() {
        StringBuilder text = new StringBuilder();
        Now then = now.copy();
        int wrong = -1;
        int why = 0;
        int lines = upTo(12);
        int lived = 0;
        for (int i = 0; i < lines; i++) {
            int sort = random.nextInt(4);
            int reason = 0;
            if (sort == 0 && houses.length > 0) {
                int h = random.nextInt(houses.length);
                text.append("up h" + (char) ('a' + h) + ";");
                reason = then.flooded[h] >= 0 ? 21 : then.up[h] ? 22 : 0;
                if (wrong < 0 && reason == 0) {
                    then.up[h] = true;
                    then.tired++;
                }
            } else if (sort == 1 && wide.length > 0) {
                int w = random.nextInt(wide.length);
                text.append("quit w" + (char) ('a' + w) + ";");
                reason = then.quit[w] ? 11 : 0;
                if (wrong < 0 && reason == 0) {
                    then.quit[w] = true;
                    then.ready += then.wallBags[w] / 2;
                    then.wallBags[w] = 0;
                }
            } else if (sort == 2 && wide.length > 0) {
                int f = upTo(Math.min(people, 60));
                int c = Math.min(60, upTo(people - f) + (random.nextInt(9) == 0 ? 1 : 0));
                int k = random.nextInt(wide.length + drains.length);
                String where = k < wide.length ? "w" + (char) ('a' + k) : "d" + (char) ('a' + k - wide.length);
                int[] post = {f, c, k < wide.length ? k : 10 + k - wide.length};
                text.append("post " + f + " " + c + " " + where + ";");
                reason = f + c > people ? 9 : java.util.Arrays.equals(post, then.post) ? 1 : 0;
                if (wrong < 0 && reason == 0) {
                    then.post = post;
                }
            } else {
                int n = 1 + upTo(8);
                text.append("hour " + n + ";");
                reason = then.hour + n > 48 ? 31 : 0;
                for (int k = 0; k < n && wrong < 0 && reason == 0; k++) {
                    hour(then);
                }
            }
            if (wrong < 0 && reason != 0) {
                wrong = i;
                why = reason;
            }
            lived += wrong < 0 ? 1 : 0;
        }
        int lives = random.nextInt(3) == 0 ? 1 : 0;
        KIT.same("book " + text, Kit.book(x, text.toString(), lives), wrong);
        int[] told = {why, lived, then.hour, saved(then)};
        for (int what = 0; what < 4; what++) {
            KIT.same("told(" + what + ")", x.told(what), told[what]);
        }
        String book = text.toString();
        acts.add(y -> Kit.book(y, book, lives));
        if (lives == 1 && lived > 0) {
            keep(now.copy());
            now = then;
        }
        compare();
    }
}
