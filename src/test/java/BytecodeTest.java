import java.io.DataInputStream;
import java.io.IOException;
import java.io.InputStream;
import java.util.ArrayList;
import java.util.Arrays;
import java.util.HashMap;
import java.util.LinkedHashMap;
import java.util.List;
import java.util.Map;
import java.util.Set;
import java.util.TreeSet;

/**
 * What of LANGUAGE.md only the bytecode shows without a doubt: what is called of the library, where objects are made,
 * that nothing is thrown, caught or cast, and how deep calls go that are no recursion.
 */
public final class BytecodeTest {
    private static final Due DUE = new Due();
    private static final int DEEPEST = 8;
    private static final Set<String> LIBRARY = Set.of("java/lang/Object.<init>()V", "java/lang/Integer.bitCount(I)I",
            "java/lang/Math.max(II)I", "java/lang/Math.min(II)I", "java/lang/String.indexOf(I)I",
            "java/lang/System.arraycopy(Ljava/lang/Object;ILjava/lang/Object;II)V");

    private static final int TABLE_SWITCH = 0xaa;
    private static final int LOOKUP_SWITCH = 0xab;
    private static final int WIDE = 0xc4;
    private static final int IINC = 0x84;

    private final Map<String, Set<String>> callsOf = new LinkedHashMap<>();
    private String[] names;
    private int[][] pairs;

    public static void main(String[] args) throws IOException {
        BytecodeTest test = new BytecodeTest();
        test.readClass(NightCarts.class);
        for (Class<?> inside : NightCarts.class.getDeclaredClasses()) {
            test.readClass(inside);
        }
        test.onlyTheLibrary();
        test.notTooDeep();
        DUE.end();
    }

    private void readClass(Class<?> which) throws IOException {
        String file = which.getName() + ".class";
        try (InputStream stream = which.getResourceAsStream(file)) {
            DataInputStream in = new DataInputStream(stream);
            in.readLong();
            readPool(in);
            in.readUnsignedShort();
            String its = names[pairs[in.readUnsignedShort()][0]];
            in.readUnsignedShort();
            in.skipBytes(2 * in.readUnsignedShort());
            readMembers(in, its, false);
            readMembers(in, its, true);
        }
    }

    private void readPool(DataInputStream in) throws IOException {
        int many = in.readUnsignedShort();
        names = new String[many];
        pairs = new int[many][2];
        for (int p = 1; p < many; p++) {
            int tag = in.readUnsignedByte();
            switch (tag) {
                case 1: names[p] = in.readUTF(); break;
                case 3: case 4: in.readInt(); break;
                case 5: case 6: in.readLong(); p++; break;
                case 7: case 8: case 16: case 19: case 20: pairs[p][0] = in.readUnsignedShort(); break;
                case 15: in.skipBytes(3); break;
                default:
                    pairs[p][0] = in.readUnsignedShort();
                    pairs[p][1] = in.readUnsignedShort();
                    break;
            }
        }
    }

    private void readMembers(DataInputStream in, String its, boolean areMethods) throws IOException {
        int many = in.readUnsignedShort();
        for (int member = 0; member < many; member++) {
            in.readUnsignedShort();
            String name = its + "." + names[in.readUnsignedShort()] + names[in.readUnsignedShort()];
            if (areMethods) {
                callsOf.put(name, new TreeSet<>());
            }
            int attributes = in.readUnsignedShort();
            for (int p = 0; p < attributes; p++) {
                String kind = names[in.readUnsignedShort()];
                byte[] bytes = in.readNBytes(in.readInt());
                if (kind.equals("Code")) {
                    readCode(name, bytes);
                }
            }
        }
    }

    private void readCode(String name, byte[] bytes) {
        int end = 8 + number(bytes, 4, 4);
        DUE.is(name + " catches nothing", number(bytes, end, 2), 0);
        for (int at = 8; at < end; at += length(bytes, at)) {
            int sign = bytes[at] & 255;
            int operand = number(bytes, at + 1, 2);
            switch (sign) {
                case 0xb6: case 0xb7: case 0xb8: case 0xb9: callsOf.get(name).add(methodAt(operand)); break;
                case 0xba: DUE.is(name + " joins no texts, has no lambda", false, true); break;
                case 0xbb: case 0xbc: case 0xbd: case 0xc5:
                    DUE.is(name + " makes nothing unless it is a constructor", name.contains("<init>"), true);
                    break;
                case 0xbf: DUE.is(name + " throws nothing", false, true); break;
                case 0xc0: DUE.is(name + " casts nothing", false, true); break;
                case 0xc2: DUE.is(name + " locks nothing", false, true); break;
                default: break;
            }
        }
    }

    private String methodAt(int place) {
        int[] of = pairs[place];
        int[] named = pairs[of[1]];
        return names[pairs[of[0]][0]] + "." + names[named[0]] + names[named[1]];
    }

    private static int number(byte[] bytes, int from, int many) {
        int number = 0;
        for (int p = from; p < from + many && p < bytes.length; p++) {
            number = number << 8 | bytes[p] & 255;
        }
        return number;
    }

    /** How many bytes the sign at a place takes; a method's code begins at place 8. */
    private static int length(byte[] bytes, int at) {
        int sign = bytes[at] & 255;
        int table = 8 + (at - 8) / 4 * 4 + 4;
        switch (sign) {
            case TABLE_SWITCH:
                return table - at + 12 + 4 * (number(bytes, table + 8, 4) - number(bytes, table + 4, 4) + 1);
            case LOOKUP_SWITCH: return table - at + 8 + 8 * number(bytes, table + 4, 4);
            case WIDE: return (bytes[at + 1] & 255) == IINC ? 6 : 4;
            case IINC: case 0x11: case 0x13: case 0x14: case 0xbb: case 0xbd: case 0xc0: case 0xc1: case 0xc6:
            case 0xc7: return 3;
            case 0x10: case 0x12: case 0xa9: case 0xbc: return 2;
            case 0xc5: return 4;
            case 0xb9: case 0xba: case 0xc8: case 0xc9: return 5;
            default: break;
        }
        if (sign >= 0x15 && sign <= 0x19 || sign >= 0x36 && sign <= 0x3a) {
            return 2;
        }
        return sign >= 0x99 && sign <= 0xa8 || sign >= 0xb2 && sign <= 0xb8 ? 3 : 1;
    }

    private void onlyTheLibrary() {
        for (Map.Entry<String, Set<String>> each : callsOf.entrySet()) {
            for (String call : each.getValue()) {
                boolean isOwn = callsOf.containsKey(call);
                DUE.is(each.getKey() + " may call " + call, isOwn || LIBRARY.contains(call), true);
            }
        }
    }

    private Set<String> reachedFrom(String method) {
        Set<String> reached = new TreeSet<>();
        List<String> ahead = new ArrayList<>(callsOf.get(method));
        for (int p = 0; p < ahead.size(); p++) {
            if (callsOf.containsKey(ahead.get(p)) && reached.add(ahead.get(p))) {
                ahead.addAll(callsOf.get(ahead.get(p)));
            }
        }
        return reached;
    }

    /** Methods that call one another are a recursion, and count as one. */
    private void notTooDeep() {
        Map<String, Set<String>> reached = new HashMap<>();
        Map<String, Integer> depths = new HashMap<>();
        for (String method : callsOf.keySet()) {
            reached.put(method, reachedFrom(method));
            depths.put(method, 1);
        }
        for (int turn = 0; turn < callsOf.size(); turn++) {
            for (String method : callsOf.keySet()) {
                for (String call : reached.get(method)) {
                    boolean isRecursion = reached.get(call).contains(method);
                    int least = depths.get(call) + (isRecursion ? 0 : 1);
                    depths.put(method, Math.max(depths.get(method), least));
                }
            }
        }
        for (String method : callsOf.keySet()) {
            DUE.is(method + " goes " + depths.get(method) + " deep", depths.get(method) <= DEEPEST, true);
        }
        Integer[] all = depths.values().toArray(new Integer[0]);
        Arrays.sort(all);
        DUE.is("calls are seen at all", all.length > 100 && all[all.length - 1] > 4, true);
    }
}
